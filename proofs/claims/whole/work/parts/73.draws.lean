/-! DRAWS, both sides -/
theorem z_land31 {x : Int} (h0 : 0 ≤ x) (h1 : x ≤ 9223372036854775807) : zland x 2147483647 = x % 2147483648 := by
  unfold zland
  have h3 : (Int64.ofInt x).toBitVec.toInt = x := z_tiL ⟨by omega, h1⟩
  rw [BitVec.toInt_eq_toNat_cond] at h3
  have h4 := (Int64.ofInt x).toBitVec.isLt
  have h5 : (Int64.ofInt x &&& Int64.ofInt 2147483647).toBitVec.toNat = (Int64.ofInt x).toBitVec.toNat % 2 ^ 31 := by
    rw [Int64.toBitVec_and, BitVec.toNat_and, show (Int64.ofInt 2147483647).toBitVec.toNat = 2 ^ 31 - 1 from rfl, Nat.and_two_pow_sub_one_eq_mod]
  show (Int64.ofInt x &&& Int64.ofInt 2147483647).toBitVec.toInt = _
  rw [BitVec.toInt_eq_toNat_cond, h5]
  have h6 := Nat.mod_lt (Int64.ofInt x).toBitVec.toNat (show 0 < 2 ^ 31 by decide)
  rw [if_pos (by omega)]
  split at h3 <;> omega
def zNx (c : Int) : Int := (c * 1103515245 + 12345) % 2147483648
theorem zNx_in (c : Int) : 0 ≤ zNx c ∧ zNx c < 2147483648 := by unfold zNx; omega
def zDv (c : Int) (n : Nat) : Nat := (zNx c).toNat / 65536 % n
theorem z_cdr {c : Int} (h0 : 0 ≤ c) (h1 : c < 2147483648) : w32 (zland (w64 (w64 (c * 1103515245) + 12345)) 2147483647) = zNx c := by
  rw [z_fixL (x := c * 1103515245) (by omega) (by omega), z_fixL (by omega) (by omega), z_land31 (by omega) (by omega)]
  exact z_fix (by omega) (by omega)
theorem z_mdr {c : Int} (h0 : 0 ≤ c) (h1 : c < 2147483648) : Int.tmod (w64 (w64 (c * 1103515245) + 12345)) 2147483648 = zNx c := by
  rw [z_fixL (x := c * 1103515245) (by omega) (by omega), z_fixL (by omega) (by omega), Int.tmod_eq_emod_of_nonneg (by omega)]
  rfl
theorem s_cdraw (d n : Nat) (hn : 0 < n) (μ : zM) {c : Int} (hc : μ 1 0 8 = c) (h0 : 0 ≤ c) (h1 : c < 2147483648) (K : Int → zM → Prop) (h : K ((zDv c n : Nat) : Int) (zset μ 1 0 8 (zNx c))) : zC1 (d + 1) m_X11_draw [zR 1 0, zI (n : Int)] μ K := by
  refine k_X11_draw d n μ K ⟨by decide, ?_⟩
  rw [hc, z_cdr h0 h1, zset_self]
  unfold zDv at h
  have hb := zNx_in c
  generalize hz : zset μ 1 0 8 (zNx c) = ν at h ⊢
  obtain ⟨x, hx⟩ := Int.eq_ofNat_of_zero_le hb.1
  rw [hx] at hb h ⊢
  rw [show Int.tdiv (x : Int) 65536 = ((x / 65536 : Nat) : Int) from rfl, z_fix (by omega) (by omega)]
  exact s_leftOver d (x / 65536) n hn ν _ h
theorem s_mdraw (d n : Nat) (hn : 0 < n) (hn2 : n < 1000) (μ : zM) {c : Int} (hc : μ 9 0 8 = c) (h0 : 0 ≤ c) (h1 : c < 2147483648) (K : Int → zM → Prop) (h : K ((zDv c n : Nat) : Int) (zset μ 9 0 8 (zNx c))) : zC1 d m_X12_draw [zR 9 0, zI (n : Int)] μ K := by
  refine k_X12_draw d n μ K ⟨by decide, by decide, by omega, ?_⟩
  rw [hc, z_mdr h0 h1, zset_self]
  unfold zDv at h
  have hb := zNx_in c
  generalize hz : zset μ 9 0 8 (zNx c) = ν at h ⊢
  obtain ⟨x, hx⟩ := Int.eq_ofNat_of_zero_le hb.1
  rw [hx] at hb h ⊢
  rw [show Int.tdiv (x : Int) 65536 = ((x / 65536 : Nat) : Int) from rfl, z_fixL (by omega) (by omega), ← Int.ofNat_tmod]
  have hm := Nat.mod_lt (x / 65536) hn
  rw [z_fix (by omega) (by omega)]
  exact h
/-- a deed by draws, without memory -/
def zdd (B : Nat → Nat) (n nP : Nat) (S : zST) (c : Int) : zST × Int :=
  if n = 0 then (S, c) else if zDv c 4 = 0 then (zuS S 3 (zDv (zNx c) n) (zflip (S 3 (zDv (zNx c) n)) (zDv (zNx (zNx c)) (B (zDv (zNx c) n)))), zNx (zNx (zNx c)))
  else if zDv c 4 = 1 ∧ 0 < nP then (zuS S 6 (zDv (zNx c) nP) ((zDv (zNx (zNx c)) 10 : Nat) : Int), zNx (zNx (zNx c)))
  else (S, zNx c)
theorem zdd_ok {n : Nat} {B : Nat → Nat} {nP : Nat} {S : zST} {M : Nat} {c : Int} (hn6 : n ≤ 6) (hB : ∀ r, r < n → 1 ≤ B r ∧ B r ≤ 12) (o : zOK n B nP S M) (h0 : 0 ≤ c) (h1 : c < 2147483648) : zOK n B nP (zdd B n nP S c).1 M ∧ (zdd B n nP S c).1 0 0 = S 0 0 ∧ 0 ≤ (zdd B n nP S c).2 ∧ (zdd B n nP S c).2 < 2147483648 := by
  unfold zdd
  split
  · exact ⟨o, rfl, h0, h1⟩
  · split
    · have hr : zDv (zNx c) n < n := Nat.mod_lt _ (by omega)
      have hb : zDv (zNx (zNx c)) (B (zDv (zNx c) n)) < B (zDv (zNx c) n) := Nat.mod_lt _ (by have := hB _ hr; omega)
      have hB2 := (hB _ hr).2
      refine ⟨zOK_3 o hr (z_flip12 (o.2.2.2.2.1 _ (by omega)).1 (by omega)), ?_, zNx_in _⟩
      dsimp only
      exact zuS_o (by omega)
    · split
      · have hx : zDv (zNx (zNx c)) 10 < 10 := Nat.mod_lt _ (by omega)
        refine ⟨zOK_6 o ⟨by omega, by omega⟩, ?_, zNx_in _⟩
        dsimp only
        exact zuS_o (by omega)
      · exact ⟨o, rfl, zNx_in _⟩
theorem zCS_c {μ : zM} {nP : Nat} {S : zST} {M N X : Nat} {PS : Nat → zST × Nat} {c : Int} (hp5 : nP ≤ 5) (h : zCS μ nP S M N X PS c) (v : Int) : zCS (zset μ 1 0 8 v) nP S M N X PS v := by
  obtain ⟨h1, ⟨p1, p2, p3, p4, p5⟩, h4⟩ := h
  have lc : ∀ j S M, zLC μ nP j S M → zLC (zset μ 1 0 8 v) nP j S M := fun j S M q => zLC_cg hp5 (fun _ _ _ => zo (by omega)) (fun _ _ => zo (by omega)) (fun _ _ _ _ _ => zo (by omega)) (fun _ _ => zo (by omega)) q
  exact ⟨lc _ _ _ h1, ⟨by rw [zo (by omega)]; exact p1, by rw [zo (by omega)]; exact p2, p3, p4, fun x hx => lc _ _ _ (p5 x hx)⟩, zset_self _ _ _ _ _⟩
theorem zMS_c {μ : zM} {nP : Nat} {S : zST} {M N : Nat} {PS : Nat → zST × Nat} {c : Int} (hp5 : nP ≤ 5) (h : zMS μ nP S M N PS c) (v : Int) : zMS (zset μ 9 0 8 v) nP S M N PS v := by
  obtain ⟨h1, ⟨p1, p2⟩, h4⟩ := h
  exact ⟨zLN_cg hp5 (fun _ _ => zo (by omega)) h1, ⟨by rw [zo (by omega)]; exact p1, fun x hx => zLN_cg hp5 (fun _ _ => zo (by omega)) (p2 x hx)⟩, zset_self _ _ _ _ _⟩
theorem zfC_c {μ μ' : zM} (f : zfC μ μ') (v : Int) : zfC μ (zset μ' 1 0 8 v) := fun a b x q1 q2 q3 q4 => by
  rw [zo (by omega)]; exact f a b x q1 q2 q3 q4
theorem zfM_c {μ μ' : zM} (f : zfM μ μ') (v : Int) : zfM μ (zset μ' 9 0 8 v) := fun a b x q1 q2 q3 q4 => by
  rw [zo (by omega)]; exact f a b x q1 q2 q3 q4
theorem s_deed (d n nP : Nat) (hp5 : nP ≤ 5) (μ : zM) {B : Nat → Nat} (hH : zHc μ n B) (e1 : μ 3 0 3 = (nP : Int)) {S : zST} {M N X : Nat} {PS : Nat → zST × Nat} {c : Int} (o : zOK n B nP S M) (h : zCS μ nP S M N X PS c) (h0 : 0 ≤ c) (h1 : c < 2147483648) (K : zM → Prop) (hK : ∀ μ', zCS μ' nP (zdd B n nP S c).1 M N X PS (zdd B n nP S c).2 → zfC μ μ' → K μ') : zC0 (d + 3) m_X11_deedByDraws [zR 1 0] μ K := by
  have hn6 := hH.2.1
  have eh : ∀ v : Int, ∀ t k, t = 3 ∨ 10 ≤ t ∧ t ≤ 14 → (zset μ 1 0 8 v) t 0 k = μ t 0 k := fun v t k q => zo (by omega)
  refine k_X11_deedByDraws (d + 2) μ K ⟨fun q => ?_, fun q => ?_⟩
  · rw [hH.1] at q
    unfold zdd at hK
    rw [if_neg (show ¬ n = 0 by omega)] at hK
    have c1 := zCS_c hp5 h (zNx c)
    have f1 := zfC_c (zfC_r μ) (zNx c)
    have b1 := zNx_in c
    have hH1 := zHc_cg (eh (zNx c)) hH
    have e11 : (zset μ 1 0 8 (zNx c)) 3 0 3 = (nP : Int) := by rw [zo (by omega)]; exact e1
    refine s_cdraw (d + 1) 4 (by omega) μ h.2.2 h0 h1 _ ?_
    generalize zset μ 1 0 8 (zNx c) = μ1 at c1 f1 hH1 e11 ⊢
    have c2 := zCS_c hp5 c1 (zNx (zNx c))
    have f2 := zfC_c f1 (zNx (zNx c))
    have b2 := zNx_in (zNx c)
    have hH2 : zHc (zset μ1 1 0 8 (zNx (zNx c))) n B := zHc_cg (fun t k q => zo (by omega)) hH1
    have b3 := zNx_in (zNx (zNx c))
    refine ⟨fun k0 => ⟨fun k1 => ?_, fun k1 => ⟨fun k2 => ?_, fun k2 => ?_⟩⟩, fun k0 => ?_⟩
    · rw [if_neg (show ¬ zDv c 4 = 0 by omega), if_neg (show ¬ (zDv c 4 = 1 ∧ 0 < nP) by omega)] at hK
      exact hK μ1 c1 f1
    · rw [e11] at k2
      rw [if_neg (show ¬ zDv c 4 = 0 by omega), if_neg (show ¬ (zDv c 4 = 1 ∧ 0 < nP) by omega)] at hK
      exact hK μ1 c1 f1
    · rw [e11] at k2 ⊢
      rw [if_neg (show ¬ zDv c 4 = 0 by omega), if_pos (show zDv c 4 = 1 ∧ 0 < nP by omega)] at hK
      refine s_cdraw (d + 1) nP (by omega) μ1 c1.2.2 b1.1 b1.2 _ ?_
      generalize zset μ1 1 0 8 (zNx (zNx c)) = μ2 at c2 f2 hH2 ⊢
      have c3 := zCS_c hp5 c2 (zNx (zNx (zNx c)))
      have f3 := zfC_c f2 (zNx (zNx (zNx c)))
      have hp : zDv (zNx c) nP < nP := Nat.mod_lt _ (by omega)
      refine s_cdraw (d + 1) 10 (by omega) μ2 c2.2.2 b2.1 b2.2 _ ?_
      generalize zset μ2 1 0 8 (zNx (zNx (zNx c))) = μ3 at c3 f3 ⊢
      refine k_X3_setPace (d + 1) 0 _ _ μ3 _ (s_put_18 (d + 1) 0 (zDv (zNx c) nP) (by omega) _ μ3 _ ?_)
      exact hK _ (zCS_u hp5 c3 18 6 _ _ (by omega) (by omega) rfl) (zfC_u f3 18 _ _ (by omega) (by omega))
    · rw [hH1.1]
      rw [if_pos (show zDv c 4 = 0 by omega)] at hK
      refine s_cdraw (d + 1) n (by omega) μ1 c1.2.2 b1.1 b1.2 _ ?_
      generalize zset μ1 1 0 8 (zNx (zNx c)) = μ2 at c2 f2 hH2 ⊢
      have c3 := zCS_c hp5 c2 (zNx (zNx (zNx c)))
      have f3 := zfC_c f2 (zNx (zNx (zNx c)))
      have hr : zDv (zNx c) n < n := Nat.mod_lt _ (by omega)
      obtain ⟨g1, g2, g3⟩ := hH2.2.2.1 _ hr
      have hb : zDv (zNx (zNx c)) (B (zDv (zNx c) n)) < B (zDv (zNx c) n) := Nat.mod_lt _ (by omega)
      refine s_barsOf (d + 1) 0 _ (by omega) μ2 _ ?_
      rw [g1]
      refine s_cdraw (d + 1) (B (zDv (zNx c) n)) (by omega) μ2 c2.2.2 b2.1 b2.2 _ ?_
      generalize zset μ2 1 0 8 (zNx (zNx (zNx c))) = μ3 at c3 f3 ⊢
      have e15 : μ3 15 0 (zDv (zNx c) n) = S 3 (zDv (zNx c) n) := c3.1.2.2.2.1 _ (by omega)
      refine s_turn d 0 _ _ (by omega) (by omega) μ3 (by rw [e15]; exact (o.2.2.2.2.1 _ (by omega)).1) _ ?_
      rw [e15]
      exact hK _ (zCS_u hp5 c3 15 3 _ _ (by omega) (by omega) rfl) (zfC_u f3 15 _ _ (by omega) (by omega))
  · rw [hH.1] at q
    unfold zdd at hK
    rw [if_pos (show n = 0 by omega)] at hK
    exact hK μ h (zfC_r μ)
theorem s_mdeed (d n nP nW : Nat) (hn : n ≠ 0) (hp5 : nP ≤ 5) (μ : zM) {B : Nat → Nat} (hHs : zHs μ n B nP nW) {S : zST} {M N : Nat} {PS : Nat → zST × Nat} {c : Int} (o : zOK n B nP S M) (h : zMS μ nP S M N PS c) (h0 : 0 ≤ c) (h1 : c < 2147483648) (K : zM → Prop) (hK : ∀ μ', zMS μ' nP (zdd B n nP S c).1 M N PS (zdd B n nP S c).2 → zfM μ μ' → K μ') : zC0 (d + 1) m_X12_draws [zR 9 0] μ K := by
  have hH := hHs.2.1
  have e1 : μ 33 0 2 = (nP : Int) := hHs.2.2.2.2.2.2.2.1.2.1
  have hn6 := hH.2.1
  unfold zdd at hK
  rw [if_neg hn] at hK
  have c1 := zMS_c hp5 h (zNx c)
  have f1 := zfM_c (zfM_r μ) (zNx c)
  have b1 := zNx_in c
  have hH1 : zHm (zset μ 9 0 8 (zNx c)) n B := zHm_cg (fun k => zo (by omega)) hH
  have e11 : (zset μ 9 0 8 (zNx c)) 33 0 2 = (nP : Int) := by rw [zo (by omega)]; exact e1
  refine k_X12_draws d μ K (s_mdraw d 4 (by omega) (by omega) μ h.2.2 h0 h1 _ ?_)
  generalize zset μ 9 0 8 (zNx c) = μ1 at c1 f1 hH1 e11 ⊢
  have c2 := zMS_c hp5 c1 (zNx (zNx c))
  have f2 := zfM_c f1 (zNx (zNx c))
  have b2 := zNx_in (zNx c)
  have hH2 : zHm (zset μ1 9 0 8 (zNx (zNx c))) n B := zHm_cg (fun k => zo (by omega)) hH1
  have b3 := zNx_in (zNx (zNx c))
  refine ⟨fun k0 => ⟨fun k1 => ?_, fun k1 => ⟨by omega, fun k2 => ?_, fun k2 => ⟨by omega, ?_⟩⟩⟩, fun k0 => ⟨by omega, ?_⟩⟩
  · rw [if_neg (show ¬ zDv c 4 = 0 by omega), if_neg (show ¬ (zDv c 4 = 1 ∧ 0 < nP) by omega)] at hK
    exact hK μ1 c1 f1
  · rw [e11] at k2
    rw [if_neg (show ¬ zDv c 4 = 0 by omega), if_neg (show ¬ (zDv c 4 = 1 ∧ 0 < nP) by omega)] at hK
    exact hK μ1 c1 f1
  · rw [e11] at k2 ⊢
    rw [if_neg (show ¬ zDv c 4 = 0 by omega), if_pos (show zDv c 4 = 1 ∧ 0 < nP by omega)] at hK
    refine s_mdraw d nP (by omega) (by omega) μ1 c1.2.2 b1.1 b1.2 _ ?_
    generalize zset μ1 9 0 8 (zNx (zNx c)) = μ2 at c2 f2 hH2 ⊢
    have c3 := zMS_c hp5 c2 (zNx (zNx (zNx c)))
    have f3 := zfM_c f2 (zNx (zNx (zNx c)))
    have hp : zDv (zNx c) nP < nP := Nat.mod_lt _ (by omega)
    refine s_mdraw d 10 (by omega) (by omega) μ2 c2.2.2 b2.1 b2.2 _ ?_
    generalize zset μ2 9 0 8 (zNx (zNx (zNx c))) = μ3 at c3 f3 ⊢
    rw [z_i (c := 16) (m := 16 + zDv (zNx c) nP) (by omega) (by omega), Int.toNat_natCast]
    refine ⟨⟨by omega, by omega⟩, ?_⟩
    have m4 := zMS_u hp5 c3 6 (zDv (zNx c) nP) ((zDv (zNx (zNx c)) 10 : Nat) : Int) (by omega) (by omega) (by rw [if_neg (by omega)]; omega)
    rw [show zcell 6 + zDv (zNx c) nP = 16 + zDv (zNx c) nP from rfl] at m4
    exact hK _ m4 (zfM_u f3 _ _)
  · rw [hH1.1]
    rw [if_pos (show zDv c 4 = 0 by omega)] at hK
    refine s_mdraw d n (by omega) (by omega) μ1 c1.2.2 b1.1 b1.2 _ ?_
    generalize zset μ1 9 0 8 (zNx (zNx c)) = μ2 at c2 f2 hH2 ⊢
    have c3 := zMS_c hp5 c2 (zNx (zNx (zNx c)))
    have f3 := zfM_c f2 (zNx (zNx (zNx c)))
    have hr : zDv (zNx c) n < n := Nat.mod_lt _ (by omega)
    obtain ⟨g1, g2, g3⟩ := hH2.2.2.1 _ hr
    have hb : zDv (zNx (zNx c)) (B (zDv (zNx c) n)) < B (zDv (zNx c) n) := Nat.mod_lt _ (by omega)
    have e15 : μ2 34 0 (zDv (zNx c) n) = S 3 (zDv (zNx c) n) := by have := c2.1.2.2.2.1 (zDv (zNx c) n) (by omega); rw [Nat.zero_add] at this; exact this
    have h12 : zset12 (S 3 (zDv (zNx c) n)) := (o.2.2.2.2.1 _ (by omega)).1
    rw [z_i (c := 0) (m := zDv (zNx c) n) (by omega) (by omega), z_i (c := 4) (m := 4 + zDv (zNx c) n) (by omega) (by omega), Int.toNat_natCast, Int.toNat_natCast, g1, e15]
    refine ⟨⟨by omega, by omega⟩, ⟨by omega, by omega⟩, s_mdraw d (B (zDv (zNx c) n)) (by omega) (by omega) μ2 c2.2.2 b2.1 b2.2 _ ?_⟩
    generalize zset μ2 9 0 8 (zNx (zNx (zNx c))) = μ3 at c3 f3 ⊢
    rw [z_xor12 h12 (show zDv (zNx (zNx c)) (B (zDv (zNx c) n)) < 12 by omega)]
    refine ⟨⟨by omega, by omega⟩, ?_⟩
    have m4 := zMS_u hp5 c3 3 (zDv (zNx c) n) (zflip (S 3 (zDv (zNx c) n)) (zDv (zNx (zNx c)) (B (zDv (zNx c) n)))) (by omega) (by omega) (by rw [if_pos rfl]; omega)
    rw [show zcell 3 + zDv (zNx c) n = zDv (zNx c) n by show 0 + _ = _; omega] at m4
    exact hK _ m4 (zfM_u f3 _ _)
