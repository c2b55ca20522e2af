/-! DEEDS by hand: LIFT, PASTE, PACE, both sides -/
def zuS (S : zST) (a k : Nat) (v : Int) : zST := fun a' k' => if a' = a ∧ k' = k then v else S a' k'
theorem zuS_o {S : zST} {a k : Nat} {v : Int} {a' k' : Nat} (h : a' ≠ a ∨ k' ≠ k) : zuS S a k v a' k' = S a' k' := by
  unfold zuS; rw [if_neg]; rintro ⟨rfl, rfl⟩; rcases h with h | h <;> exact h rfl
theorem zuS_i (S : zST) (a k : Nat) (v : Int) : zuS S a k v a k = v := by unfold zuS; rw [if_pos ⟨rfl, rfl⟩]
theorem zLC_u {μ : zM} {nP j : Nat} {S : zST} {M : Nat} (h : zLC μ nP j S M) (t a k : Nat) (v : Int) (h3 : 3 ≤ a) (h6 : a ≤ 6) (e : t = a + 12) : zLC (zset μ t j k v) nP j (zuS S a k v) M := by
  obtain ⟨c1, c2, c3, c4, c5, c6⟩ := h
  have g : ∀ t' a' x, t' = a' + 12 → μ t' j x = S a' x → zset μ t j k v t' j x = zuS S a k v a' x := by
    intro t' a' x q1 q2
    by_cases q : a' = a ∧ x = k
    · obtain ⟨rfl, rfl⟩ := q
      have : t' = t := by omega
      subst this
      rw [zset_self, zuS_i]
    · rw [zo (by omega), zuS_o (by omega)]; exact q2
  refine ⟨by rw [zo (by omega), zuS_o (by omega)]; exact c1, by rw [zo (by omega), zuS_o (by omega)]; exact c2, by rw [zo (by omega)]; exact c3, fun r hr => g _ _ _ (by omega) (c4 r hr), fun p hp => ⟨g _ _ _ (by omega) (c5 p hp).1, g _ _ _ (by omega) (c5 p hp).2.1, g _ _ _ (by omega) (c5 p hp).2.2⟩, fun x q1 q2 => ?_⟩
  rw [zo (by omega), zuS_o (by omega)]; exact c6 x q1 q2
def zcell (a : Nat) : Nat := match a with | 3 => 0 | 4 => 6 | 5 => 11 | _ => 16
theorem zLN_u {μ : zM} {nP i : Nat} {S : zST} {M : Nat} (hp5 : nP ≤ 5) (h : zLN μ nP 34 i 0 S M) (a k : Nat) (v : Int) (h3 : 3 ≤ a) (h6 : a ≤ 6) (hk : k < if a = 3 then 6 else 5) : zLN (zset μ 34 i (zcell a + k) v) nP 34 i 0 (zuS S a k v) M := by
  obtain ⟨c1, c2, c3, c4, c5, c6⟩ := h
  rcases (show a = 3 ∨ a = 4 ∨ a = 5 ∨ a = 6 by omega) with rfl | rfl | rfl | rfl
  all_goals
    first
    | rw [if_pos (by omega)] at hk
    | rw [if_neg (by omega)] at hk
  · have ec : zcell 3 = 0 := rfl
    rw [ec]
    refine ⟨by rw [zo (by omega), zuS_o (by omega)]; exact c1, by rw [zo (by omega), zuS_o (by omega)]; exact c2, by rw [zo (by omega)]; exact c3, fun r hr => ?_, fun p hp => ?_, fun x q1 q2 => ?_⟩
    · by_cases q : r = k
      · subst q; rw [zset_self, zuS_i]
      · rw [zo (by omega), zuS_o (by omega)]; exact c4 r hr
    · rw [zo (by omega), zo (by omega), zo (by omega), zuS_o (by omega), zuS_o (by omega), zuS_o (by omega)]; exact c5 p hp
    · rw [zo (by omega), zuS_o (by omega)]; exact c6 x q1 q2
  · have ec : zcell 4 = 6 := rfl
    rw [ec]
    refine ⟨by rw [zo (by omega), zuS_o (by omega)]; exact c1, by rw [zo (by omega), zuS_o (by omega)]; exact c2, by rw [zo (by omega)]; exact c3, fun r hr => ?_, fun p hp => ?_, fun x q1 q2 => ?_⟩
    · rw [zo (by omega), zuS_o (by omega)]; exact c4 r hr
    · by_cases q : p = k
      · subst q
        rw [show 0 + 6 + p = 6 + p by omega, zset_self, zuS_i, zo (by omega), zo (by omega), zuS_o (by omega), zuS_o (by omega)]; exact ⟨rfl, (c5 p hp).2⟩
      · rw [zo (by omega), zo (by omega), zo (by omega), zuS_o (by omega), zuS_o (by omega), zuS_o (by omega)]; exact c5 p hp
    · rw [zo (by omega), zuS_o (by omega)]; exact c6 x q1 q2
  · have ec : zcell 5 = 11 := rfl
    rw [ec]
    refine ⟨by rw [zo (by omega), zuS_o (by omega)]; exact c1, by rw [zo (by omega), zuS_o (by omega)]; exact c2, by rw [zo (by omega)]; exact c3, fun r hr => ?_, fun p hp => ?_, fun x q1 q2 => ?_⟩
    · rw [zo (by omega), zuS_o (by omega)]; exact c4 r hr
    · by_cases q : p = k
      · subst q
        rw [show 0 + 11 + p = 11 + p by omega, zset_self, zuS_i, zo (by omega), zo (by omega), zuS_o (by omega), zuS_o (by omega)]; exact ⟨(c5 p hp).1, rfl, (c5 p hp).2.2⟩
      · rw [zo (by omega), zo (by omega), zo (by omega), zuS_o (by omega), zuS_o (by omega), zuS_o (by omega)]; exact c5 p hp
    · rw [zo (by omega), zuS_o (by omega)]; exact c6 x q1 q2
  · have ec : zcell 6 = 16 := rfl
    rw [ec]
    refine ⟨by rw [zo (by omega), zuS_o (by omega)]; exact c1, by rw [zo (by omega), zuS_o (by omega)]; exact c2, by rw [zo (by omega)]; exact c3, fun r hr => ?_, fun p hp => ?_, fun x q1 q2 => ?_⟩
    · rw [zo (by omega), zuS_o (by omega)]; exact c4 r hr
    · by_cases q : p = k
      · subst q
        rw [show 0 + 16 + p = 16 + p by omega, zset_self, zuS_i, zo (by omega), zo (by omega), zuS_o (by omega), zuS_o (by omega)]; exact ⟨(c5 p hp).1, (c5 p hp).2.1, rfl⟩
      · rw [zo (by omega), zo (by omega), zo (by omega), zuS_o (by omega), zuS_o (by omega), zuS_o (by omega)]; exact c5 p hp
    · rw [zo (by omega), zuS_o (by omega)]; exact c6 x q1 q2
theorem zCS_u {μ : zM} {nP : Nat} {S : zST} {M N X : Nat} {PS : Nat → zST × Nat} {c : Int} (hp5 : nP ≤ 5) (h : zCS μ nP S M N X PS c) (t a k : Nat) (v : Int) (h3 : 3 ≤ a) (h6 : a ≤ 6) (e : t = a + 12) : zCS (zset μ t 0 k v) nP (zuS S a k v) M N X PS c := by
  obtain ⟨h1, ⟨p1, p2, p3, p4, p5⟩, h4⟩ := h
  refine ⟨zLC_u h1 t a k v h3 h6 e, ⟨by rw [zo (by omega)]; exact p1, by rw [zo (by omega)]; exact p2, p3, p4, fun x hx => ?_⟩, by rw [zo (by omega)]; exact h4⟩
  exact zLC_cg hp5 (fun _ _ _ => zo (by omega)) (fun _ _ => zo (by omega)) (fun _ _ _ _ _ => zo (by omega)) (fun _ _ => zo (by omega)) (p5 x hx)
theorem zfC_u {μ μ' : zM} (f : zfC μ μ') (t k : Nat) (v : Int) (h1 : 15 ≤ t) (h2 : t ≤ 19) : zfC μ (zset μ' t 0 k v) := fun a b x q1 q2 q3 q4 => by
  unfold zlv at q1
  rw [zo (by omega)]; exact f a b x q1 q2 q3 q4
theorem zMS_u {μ : zM} {nP : Nat} {S : zST} {M N : Nat} {PS : Nat → zST × Nat} {c : Int} (hp5 : nP ≤ 5) (h : zMS μ nP S M N PS c) (a k : Nat) (v : Int) (h3 : 3 ≤ a) (h6 : a ≤ 6) (hk : k < if a = 3 then 6 else 5) : zMS (zset μ 34 0 (zcell a + k) v) nP (zuS S a k v) M N PS c := by
  obtain ⟨h1, ⟨p1, p2⟩, h4⟩ := h
  exact ⟨zLN_u hp5 h1 a k v h3 h6 hk, ⟨by rw [zo (by omega)]; exact p1, fun x hx => zLN_cg hp5 (fun _ _ => zo (by omega)) (p2 x hx)⟩, by rw [zo (by omega)]; exact h4⟩
theorem zfM_u {μ μ' : zM} (f : zfM μ μ') (k : Nat) (v : Int) : zfM μ (zset μ' 34 0 k v) := fun a b x q1 q2 q3 q4 => by
  rw [zo (by omega)]; exact f a b x q1 q2 q3 q4
theorem s_cadd (d : Nat) (μ : zM) {nP : Nat} {S : zST} {M N X : Nat} {PS : Nat → zST × Nat} {c : Int} (hp5 : nP ≤ 5) (h : zCS μ nP S M N X PS c) (K : zM → Prop) (hK : ∀ μ1, zCS μ1 nP S M (zup N) ((X + 1) % 30) (zpu N PS S M) c → zfC μ μ1 → K μ1) : zC0 (d + 3) m_X6_add [zR 5 0, zR 4 0] μ K := by
  obtain ⟨h1, h2, h3⟩ := h
  refine s_add d μ h2.2.2.2.1 h2.2.2.1 h2.1 h2.2.1 K (fun μ1 a => ?_)
  obtain ⟨g1, g2⟩ := zPC_add hp5 h2 h1 a
  refine hK μ1 ⟨g2, g1, ?_⟩ (zAdd_fC h2.2.2.1 a)
  rw [a.2.2.2.2.2.2 _ _ _ (by unfold zlv; omega) (by omega)]; exact h3
theorem s_mrem (d : Nat) (μ : zM) {nP : Nat} {S : zST} {M N : Nat} {PS : Nat → zST × Nat} {c : Int} (hp5 : nP ≤ 5) (hN : N ≤ 30) (h : zMS μ nP S M N PS c) (K : zM → Prop) (hK : ∀ μ1, zMS μ1 nP S M (zup N) (zpu N PS S M) c → zfM μ μ1 → K μ1) : zC0 (d + 1) m_X12_remember [zR 9 0] μ K := by
  obtain ⟨h1, h2, h3⟩ := h
  refine s_remember d μ hN h2.1 K (fun μ1 a => ?_)
  obtain ⟨g1, g2⟩ := zPM_add hp5 hN h2 h1 a
  refine hK μ1 ⟨g2, g1, ?_⟩ (zRem_fM a)
  rw [a.2.2.2 _ _ _ (by omega) (by omega)]; exact h3
/-- what a BAR reads, without memory -/
def zrS (P U : Nat → Int) (S : zST) (r b : Nat) : Int := if r < 6 ∧ b < 12 then (if zbit (S 3 r) b = true then U (12 * r + b) else P (12 * r + b)) else 0
theorem rC_S {μ : zM} {nP j : Nat} {S : zST} {M : Nat} (h : zLC μ nP j S M) : rC μ j = zrS (μ 11 0) (μ 12 0) S := by
  funext r b
  unfold rC zrS
  by_cases q : r < 6 ∧ b < 12
  · rw [if_pos q, if_pos q, h.2.2.2.1 r q.1]
  · rw [if_neg q, if_neg q]
theorem rM_S {μ : zM} {n : Nat} {B : Nat → Nat} {nP nW i : Nat} {S : zST} {M : Nat} (hH : zHs μ n B nP nW) (h : zLN μ nP 34 i 0 S M) : rM μ i = zrS (μ 11 0) (μ 12 0) S := by
  funext r b
  unfold rM zrS
  by_cases q : r < 6 ∧ b < 12
  · have h3 := h.2.2.2.1 r q.1
    rw [Nat.zero_add] at h3
    rw [if_pos q, if_pos q, h3, hH.2.2.1 (12 * r + b) (by omega), hH.2.2.2.1 (12 * r + b) (by omega), show 88 + 12 * r + b = 88 + (12 * r + b) by omega, show 16 + 12 * r + b = 16 + (12 * r + b) by omega]
  · rw [if_neg q, if_neg q]
theorem zLC_lc {μ : zM} {n : Nat} {B : Nat → Nat} {nP j : Nat} {S : zST} {M : Nat} (o : zOK n B nP S M) (h : zLC μ nP j S M) : zLc μ j := fun r hr => by rw [h.2.2.2.1 r hr]; exact (o.2.2.2.2.1 r hr).1
theorem zLN_lm {μ : zM} {n : Nat} {B : Nat → Nat} {nP i : Nat} {S : zST} {M : Nat} (o : zOK n B nP S M) (h : zLN μ nP 34 i 0 S M) : zLm μ i := fun r hr => by
  have := h.2.2.2.1 r hr
  rw [Nat.zero_add] at this
  rw [this]; exact (o.2.2.2.2.1 r hr).1
theorem zOK_3 {n : Nat} {B : Nat → Nat} {nP : Nat} {S : zST} {M : Nat} (o : zOK n B nP S M) {r : Nat} {v : Int} (hr : r < n) (hv : zset12 v) : zOK n B nP (zuS S 3 r v) M := by
  obtain ⟨o1, o2, o3, o4, o5, o6⟩ := o
  refine ⟨by rw [zuS_o (by omega)]; exact o1, by rw [zuS_o (by omega)]; exact o2, by rw [zuS_o (by omega)]; exact o3, fun k q1 q2 => by rw [zuS_o (by omega)]; exact o4 k q1 q2, fun x hx => ?_, fun p hp => by rw [zuS_o (by omega), zuS_o (by omega), zuS_o (by omega)]; exact o6 p hp⟩
  by_cases q : x = r
  · subst q; rw [zuS_i]; exact ⟨hv, fun z => absurd hr (by omega)⟩
  · rw [zuS_o (by omega)]; exact o5 x hx
theorem zOK_6 {n : Nat} {B : Nat → Nat} {nP : Nat} {S : zST} {M : Nat} (o : zOK n B nP S M) {p : Nat} {v : Int} (hv : 0 ≤ v ∧ v ≤ 9) : zOK n B nP (zuS S 6 p v) M := by
  obtain ⟨o1, o2, o3, o4, o5, o6⟩ := o
  refine ⟨by rw [zuS_o (by omega)]; exact o1, by rw [zuS_o (by omega)]; exact o2, by rw [zuS_o (by omega)]; exact o3, fun k q1 q2 => by rw [zuS_o (by omega)]; exact o4 k q1 q2, fun x hx => by rw [zuS_o (by omega)]; exact o5 x hx, fun x hx => ?_⟩
  rw [zuS_o (by omega), zuS_o (by omega)]
  obtain ⟨r, b, g, h1, h2, h3, h4, h5, h6⟩ := o6 x hx
  by_cases q : x = p
  · subst q; rw [zuS_i]
    obtain ⟨y, rfl⟩ := Int.eq_ofNat_of_zero_le hv.1
    exact ⟨r, b, y, h1, h2, rfl, h4, h5, by omega⟩
  · rw [zuS_o (by omega)]; exact ⟨r, b, g, h1, h2, h3, h4, h5, h6⟩
theorem s_turn (d j r b : Nat) (hr : r < 6) (hb : b < 12) (μ : zM) (hs : zset12 (μ 15 j r)) (K : zM → Prop) (h : K (zset μ 15 j r (zflip (μ 15 j r) b))) : zC0 (d + 2) m_X3_turn [zR 4 j, zI (r : Int), zI (b : Int)] μ K := by
  refine k_X3_turn (d + 1) j r b μ K (s_liftedIn d j r hr μ _ ?_)
  rw [z_xor12 hs hb]
  exact s_put_15 _ j r hr _ μ _ h
