/-! PLACES, both sides -/
def zgs (μ μ' : zM) : Prop := ∀ t i k, ¬ (t = 29 ∨ (t = 7 ∧ k = 9)) → μ' t i k = μ t i k
def zFd (μ : zM) (l : List Nat) : Prop := μ 7 0 9 = ((l.length : Nat) : Int) ∧ ∀ (k x : Nat), l[k]? = some x → μ 29 0 k = (x : Int)
theorem zgs_kp {μ μ' : zM} (h : zgs μ μ') : zkp μ μ' := fun t i k q => h t i k (fun z => q (by unfold zsc; omega))
theorem zFd_app {μ : zM} {l : List Nat} (h : zFd μ l) (x : Nat) : zFd (zset (zset μ 29 0 l.length (x : Int)) 7 0 9 ((l.length + 1 : Nat) : Int)) (l ++ x :: []) := by
  refine ⟨?_, fun k y hy => ?_⟩
  · rw [zset_self, List.length_append]; rfl
  · rw [zo (by omega)]
    by_cases q : k < l.length
    · rw [List.getElem?_append_left q] at hy
      rw [zo (by omega)]
      exact h.2 k y hy
    · rw [List.getElem?_append_right (by omega)] at hy
      by_cases q2 : k = l.length
      · subst q2
        rw [Nat.sub_self] at hy
        simp at hy
        rw [zset_self, hy]
      · have : k - l.length = (k - l.length - 1) + 1 := by omega
        rw [this] at hy
        simp at hy
theorem zgs_set {μ μ' : zM} (h : zgs μ μ') (x : Nat) (v w : Int) : zgs μ (zset (zset μ' 29 0 x v) 7 0 9 w) := fun t i k q => by
  rw [zo (by omega), zo (by omega)]; exact h t i k q
theorem s_findPlaces (d : Nat) (μ : zM) {n : Nat} {B : Nat → Nat} (hH : zHc μ n B) (hL : zLc μ 0) {N : Nat} (hN : N ≤ 6) (e : μ 7 0 7 = (N : Int)) (hD : ∀ k, k < N → 0 ≤ μ 24 0 k ∧ μ 24 0 k ≤ 11) (K : zM → Prop) (h : ∀ μ', zgs μ μ' → zFd μ' (zpl (zfit (rC μ 0) B N (μ 24 0) (μ 25 0)) B n) → K μ') : zC0 (d + 5) m_X10_findPlaces [zR 7 0, zR 4 0] μ K := by
  have hH0 := hH
  obtain ⟨e1, e2, e3, -⟩ := hH
  have hB : ∀ r, r < n → B r ≤ 12 := fun r hr => (e3 r hr).2.2
  generalize hG : zfit (rC μ 0) B N (μ 24 0) (μ 25 0) = G at h
  refine k_X10_findPlaces (d + 4) 0 μ K ?_
  have fr : ∀ μ', zgs μ μ' → zHc μ' n B ∧ zLc μ' 0 ∧ μ' 7 0 7 = (N : Int) ∧ (∀ k, k < N → 0 ≤ μ' 24 0 k ∧ μ' 24 0 k ≤ 11) ∧ zfit (rC μ' 0) B N (μ' 24 0) (μ' 25 0) = G := by
    intro μ' hg
    have c24 : μ' 24 0 = μ 24 0 := by funext k; exact hg _ _ _ (by omega)
    have c25 : μ' 25 0 = μ 25 0 := by funext k; exact hg _ _ _ (by omega)
    have cr : rC μ' 0 = rC μ 0 := rC_cg (fun k => hg _ _ _ (by omega)) (fun t k z => hg _ _ _ (by omega))
    refine ⟨zHc_cg (fun t k z => hg _ _ _ (by omega)) hH0, zLc_cg (fun k => hg _ _ _ (by omega)) hL, by rw [hg _ _ _ (by omega)]; exact e, ?_, ?_⟩
    · rw [c24]; exact hD
    · rw [cr, c24, c25]; exact hG
  have L : ∀ m r : Nat, r + m = n → ∀ μ', zgs μ μ' → zFd μ' (zpl G B r) → zJ (d + 5) m_X10_findPlaces 7 [some (zR 7 0), some (zR 4 0), some (zI (r : Int)), none, none] μ' (zQ0 K) := by
    intro m
    induction m with
    | zero =>
      intro r hr μ' hg hf
      obtain ⟨f1, -⟩ := fr μ' hg
      have f2 := f1.1
      refine k_X10_findPlaces_7 (d + 4) 0 r μ' K ⟨fun _ => ?_, fun q => absurd q (by omega)⟩
      rw [show r = n by omega] at hf
      exact h μ' hg hf
    | succ m ih =>
      intro r hr μ' hg hf
      obtain ⟨f1, -⟩ := fr μ' hg
      have f2 := f1.1
      obtain ⟨g1, g2, g3⟩ := f1.2.2.1 r (by omega)
      refine k_X10_findPlaces_7 (d + 4) 0 r μ' K ⟨fun q => absurd q (by omega), fun _ => s_barsOf (d + 3) 0 r (by omega) μ' _ ?_⟩
      rw [g1]
      have L2 : ∀ m2 b : Nat, b + m2 = B r → ∀ μ', zgs μ μ' → zFd μ' (zpl G B r ++ zps G r b) → zJ (d + 5) m_X10_findPlaces 30 [some (zR 7 0), some (zR 4 0), some (zI (r : Int)), some (zI (B r : Int)), some (zI (b : Int))] μ' (zQ0 K) := by
        intro m2
        induction m2 with
        | zero =>
          intro b hb μ' hg hf
          refine k_X10_findPlaces_30 (d + 4) 0 r (B r) b μ' K ⟨fun _ => ?_, fun q => absurd q (by omega)⟩
          rw [z_fix (by omega) (by omega)]
          refine ih (r + 1) (by omega) μ' hg ?_
          rw [zpl_s, ← show b = B r by omega]
          exact hf
        | succ m2 ih2 =>
          intro b hb μ' hg hf
          obtain ⟨f1, f3, f4, f5, f6⟩ := fr μ' hg
          refine k_X10_findPlaces_30 (d + 4) 0 r (B r) b μ' K ⟨fun q => absurd q (by omega), fun _ => s_fits d r b (by omega) μ' f1 (by omega) f3 hN f4 f5 _ ?_⟩
          rw [f6, z_fix (show (-2147483648 : Int) ≤ (b : Int) + 1 by omega) (by omega)]
          have E : zpl G B r ++ zps G r (b + 1) = (zpl G B r ++ zps G r b) ++ (if G r b = true then (100 * r + b) :: [] else []) := by rw [zps_s, List.append_assoc]
          by_cases q : G r b = true
          · rw [if_pos q] at E ⊢
            refine ⟨fun _ => ?_, fun z => absurd (show (1 : Int) ≠ 0 by decide) z⟩
            have hl : (zpl G B r ++ zps G r b).length < 72 := by
              rw [List.length_append]
              have h1 := zpl_len G B r (fun x hx => hB x (by omega))
              have h2 := zps_len G r b
              omega
            rw [hf.1, show w32 (w32 ((r : Int) * 100) + (b : Int)) = ((100 * r + b : Nat) : Int) by rw [z_fix (show (-2147483648 : Int) ≤ (r : Int) * 100 by omega) (by omega), z_fix (by omega) (by omega)]; omega]
            refine s_put_29 _ _ hl _ μ' _ ?_
            rw [show (zset μ' 29 0 (zpl G B r ++ zps G r b).length ((100 * r + b : Nat) : Int)) 7 0 9 = ((zpl G B r ++ zps G r b).length : Int) from hf.1, z_fix (by omega) (by omega)]
            refine ih2 (b + 1) (by omega) _ (zgs_set hg _ _ _) ?_
            rw [E]
            exact zFd_app hf _
          · rw [if_neg q] at E ⊢
            refine ⟨fun z => absurd rfl z, fun _ => ih2 (b + 1) (by omega) μ' hg ?_⟩
            rw [E, List.append_nil]
            exact hf
      refine L2 (B r) 0 (by omega) μ' hg ?_
      rw [show zps G r 0 = [] from rfl, List.append_nil]
      exact hf
  refine L n 0 (by omega) _ (fun t i k q => ?_) ⟨rfl, fun k x hx => ?_⟩
  · rw [zo (by omega)]
  · rw [show zpl G B 0 = [] from rfl] at hx
    simp at hx
/-- sets of ROOMS -/
theorem z_cm6 : ∀ s : Nat, s < 64 → ∀ a : Nat, a < 6 → ∀ b : Nat, b < 6 → zon (zon (s : Int) a) b = zon (zon (s : Int) b) a := by decide +kernel
theorem z_on6 : ∀ s : Nat, s < 64 → ∀ a : Nat, a < 6 → 0 ≤ zon (s : Int) a ∧ zon (s : Int) a < 64 := by decide +kernel
def zst6 (s : Int) : Prop := 0 ≤ s ∧ s < 64
theorem zst6_on {s : Int} (h : zst6 s) {a : Nat} (ha : a < 6) : zst6 (zon s a) := by
  obtain ⟨n, rfl⟩ := Int.eq_ofNat_of_zero_le h.1
  exact z_on6 n (by have := h.2; omega) a ha
theorem zst6_cm {s : Int} (h : zst6 s) {a b : Nat} (ha : a < 6) (hb : b < 6) : zon (zon s a) b = zon (zon s b) a := by
  obtain ⟨n, rfl⟩ := Int.eq_ofNat_of_zero_le h.1
  exact z_cm6 n (by have := h.2; omega) a ha b hb
theorem zst6_12 {s : Int} (h : zst6 s) : zset12 s := ⟨h.1, by have := h.2; omega⟩
def zfl (s : Int) : List Nat → Int
  | [] => s
  | x :: t => zfl (zon s (x / 100)) t
def zrs (s : Int) : List Nat → Int
  | [] => s
  | x :: t => zon (zrs s t) (x / 100)
theorem zrs_6 {s : Int} (h : zst6 s) : ∀ l : List Nat, (∀ x, x ∈ l → x / 100 < 6) → zst6 (zrs s l)
  | [], _ => h
  | x :: t, hl => zst6_on (zrs_6 h t (fun y hy => hl y (List.mem_cons_of_mem _ hy))) (hl x (List.mem_cons_self))
theorem zrs_c {s : Int} (h : zst6 s) {a : Nat} (ha : a < 6) : ∀ l : List Nat, (∀ x, x ∈ l → x / 100 < 6) → zrs (zon s a) l = zon (zrs s l) a
  | [], _ => rfl
  | x :: t, hl => by
    have h1 := hl x List.mem_cons_self
    have h2 : ∀ y, y ∈ t → y / 100 < 6 := fun y hy => hl y (List.mem_cons_of_mem _ hy)
    show zon (zrs (zon s a) t) (x / 100) = zon (zon (zrs s t) (x / 100)) a
    rw [zrs_c h ha t h2, zst6_cm (zrs_6 h t h2) ha h1]
theorem zfl_r : ∀ (l : List Nat) (s : Int), zst6 s → (∀ x, x ∈ l → x / 100 < 6) → zfl s l = zrs s l
  | [], _, _, _ => rfl
  | x :: t, s, h, hl => by
    have h1 := hl x List.mem_cons_self
    have h2 : ∀ y, y ∈ t → y / 100 < 6 := fun y hy => hl y (List.mem_cons_of_mem _ hy)
    show zfl (zon s (x / 100)) t = zon (zrs s t) (x / 100)
    rw [zfl_r t _ (zst6_on h h1) h2, zrs_c h h1 t h2]
theorem zfl_app : ∀ (l : List Nat) (s : Int) (x : Nat), zfl s (l ++ x :: []) = zon (zfl s l) (x / 100)
  | [], _, _ => rfl
  | y :: t, s, x => zfl_app t (zon s (y / 100)) x
theorem s_roomsFound (d : Nat) (μ : zM) {l : List Nat} (hf : zFd μ l) (h72 : l.length ≤ 72) (hl : ∀ x, x ∈ l → x / 100 < 6) (K : Int → zM → Prop) (h : K (zfl 0 l) μ) : zC1 (d + 1) m_X10_roomsFound [zR 7 0] μ K := by
  refine k_X10_roomsFound d μ K ?_
  have L : ∀ m i : Nat, i + m = l.length → zJ (d + 1) m_X10_roomsFound 4 [some (zR 7 0), some (zI (zfl 0 (l.take i))), some (zI (i : Int))] μ (zQ1 K) := by
    intro m
    induction m with
    | zero =>
      intro i hi
      refine k_X10_roomsFound_4 d _ i μ K ⟨fun _ => ?_, fun q => absurd hf.1 (by omega)⟩
      rw [List.take_of_length_le (by omega)]
      exact h
    | succ m ih =>
      intro i hi
      have e := ih (i + 1) (by omega)
      have hi2 : i < l.length := by omega
      have hx : l[i]? = some l[i] := List.getElem?_eq_getElem hi2
      rw [List.take_succ, hx] at e
      have e2 : zfl 0 (l.take i ++ (some l[i]).toList) = zon (zfl 0 (l.take i)) (l[i] / 100) := zfl_app _ _ _
      rw [e2] at e
      have h6 := hl l[i] (List.getElem_mem hi2)
      have ht : ∀ x, x ∈ l.take i → x / 100 < 6 := fun x hx => hl x (List.mem_of_mem_take hx)
      have hs : zst6 (zfl 0 (l.take i)) := by
        rw [zfl_r _ _ ⟨by decide, by decide⟩ ht]
        exact zrs_6 ⟨by decide, by decide⟩ _ ht
      refine k_X10_roomsFound_4 d _ i μ K ⟨fun q => absurd hf.1 (by omega), fun _ => s_at_29 d i (by omega) μ _ ⟨by decide, ?_⟩⟩
      rw [hf.2 i _ hx, show Int.tdiv ((l[i] : Nat) : Int) 100 = ((l[i] / 100 : Nat) : Int) from rfl, z_fix (show (-2147483648 : Int) ≤ ((l[i] / 100 : Nat) : Int) by omega) (by omega), z_fix (by omega) (by omega), z_or12 (zst6_12 hs) (by omega)]
      exact e
  exact L l.length 0 (by omega)
def zhdp : List Nat → Int
  | [] => -1
  | x :: _ => (x : Int)
theorem s_mplaces (d : Nat) (w : Nat) (hw : w ≤ 2) (μ : zM) {n : Nat} {B : Nat → Nat} (hH : zHm μ n B) (hL : zLm μ 0) {N : Nat} (hN : N ≤ 6) (e : μ 9 0 13 = (N : Int)) (hD : ∀ k, k < N → 0 ≤ μ 39 0 (2 * k) ∧ μ 39 0 (2 * k) ≤ 11) (G : Nat → Nat → Bool) (hG : zfit (rM μ 0) B N (fun k => μ 39 0 (2 * k)) (fun k => μ 39 0 (2 * k + 1)) = G) (K : Int → zM → Prop) (h0 : w = 0 → K ((zpl G B n).length : Nat) μ) (h1 : w = 1 → K (zhdp (zpl G B n)) μ) (h2 : w = 2 → K (zrs 0 (zpl G B n)) μ) : zC1 (d + 4) m_X12_places [zR 9 0, zI (w : Int)] μ K := by
  have hH0 := hH
  obtain ⟨e1, e2, e3, -⟩ := hH
  have hB : ∀ r, r < n → B r ≤ 12 := fun r hr => (e3 r hr).2.2
  have hlen := zpl_len G B n hB
  have h6 : ∀ x, x ∈ zpl G B n → x / 100 < 6 := by
    intro x hx
    obtain ⟨r, c, q1, q2, q3⟩ := zpl_in G B n x hx
    have := hB r q1
    omega
  refine k_X12_places (d + 3) w μ K (s_in _ _ _ _ μ _ (fun _ _ => ⟨fun _ => ⟨by omega, ?_⟩, fun z => absurd (show (1 : Int) ≠ 0 by decide) z⟩) (fun q => absurd q (by omega)))
  rw [e1, z_fix (by omega) (by omega)]
  have L : ∀ r : Nat, r ≤ n → ∀ sfx : List Nat, zpl G B n = zpl G B r ++ sfx → zJ (d + 4) m_X12_places 32 [some (zR 9 0), some (zI (w : Int)), some (zI ((sfx.length : Nat) : Int)), some (zI (zhdp sfx)), some (zI (zrs 0 sfx)), some (zI ((r : Int) - 1)), none] μ (zQ1 K) := by
    intro r
    induction r with
    | zero =>
      intro _ sfx hs
      rw [show zpl G B 0 = [] from rfl, List.nil_append] at hs
      rw [hs] at h0 h1 h2
      refine k_X12_places_32 (d + 3) w _ _ _ _ μ K ⟨fun _ => ⟨fun q => ⟨fun q2 => h2 (by omega), fun q2 => h1 (by omega)⟩, fun q => h0 (by omega)⟩, fun q => absurd q (by omega)⟩
    | succ r ih =>
      intro hr sfx hs
      obtain ⟨g1, g2, g3⟩ := e3 r (by omega)
      rw [show ((r + 1 : Nat) : Int) - 1 = (r : Int) by omega]
      refine k_X12_places_32 (d + 3) w _ _ _ _ μ K ⟨fun q => absurd q (by omega), fun _ => ?_⟩
      rw [z_i (c := 4) (m := 4 + r) (by omega) (by omega), Int.toNat_natCast, g1, z_fix (show (-2147483648 : Int) ≤ (B r : Int) - 1 by omega) (by omega)]
      refine ⟨⟨by omega, by omega⟩, ?_⟩
      have L2 : ∀ b : Nat, b ≤ B r → ∀ sfx : List Nat, zpl G B n = (zpl G B r ++ zps G r b) ++ sfx → zJ (d + 4) m_X12_places 50 [some (zR 9 0), some (zI (w : Int)), some (zI ((sfx.length : Nat) : Int)), some (zI (zhdp sfx)), some (zI (zrs 0 sfx)), some (zI (r : Int)), some (zI ((b : Int) - 1))] μ (zQ1 K) := by
        intro b
        induction b with
        | zero =>
          intro _ sfx hs
          rw [show zps G r 0 = [] from rfl, List.append_nil] at hs
          refine k_X12_places_50 (d + 3) w _ _ _ r _ μ K ⟨fun _ => ?_, fun q => absurd q (by omega)⟩
          rw [z_fix (by omega) (by omega)]
          exact ih (by omega) sfx hs
        | succ b ih2 =>
          intro hb sfx hs
          rw [show ((b + 1 : Nat) : Int) - 1 = (b : Int) by omega]
          refine k_X12_places_50 (d + 3) w _ _ _ r b μ K ⟨fun q => absurd q (by omega), fun _ => s_isSo d r b (by omega) μ hH0 (by omega) hL hN e hD _ ?_⟩
          rw [hG, show w32 ((b : Int) + -1) = (b : Int) - 1 from z_fix (by omega) (by omega)]
          rw [zps_s, List.append_assoc, List.append_assoc, ← List.append_assoc (zpl G B r)] at hs
          have hsl : sfx.length ≤ 72 := by
            have h3 : (zpl G B n).length ≤ 72 := by omega
            rw [hs] at h3
            simp only [List.length_append] at h3
            omega
          have hs6 : ∀ x, x ∈ sfx → x / 100 < 6 := fun x hx => h6 x (by rw [hs]; simp [hx])
          by_cases q : G r b = true
          · rw [if_pos q] at hs ⊢
            refine ⟨fun z => absurd z (by decide), fun _ => ?_⟩
            have ea := ih2 (by omega) ((100 * r + b) :: sfx) hs
            rw [show w32 (w32 (100 * (r : Int)) + (b : Int)) = ((100 * r + b : Nat) : Int) by rw [z_fix (show (-2147483648 : Int) ≤ 100 * (r : Int) by omega) (by omega), z_fix (by omega) (by omega)]; omega, z_fix (show (-2147483648 : Int) ≤ ((sfx.length : Nat) : Int) + 1 by omega) (by omega), z_or12 (zst6_12 (zrs_6 ⟨by decide, by decide⟩ _ hs6)) (by omega)]
            have er : zrs 0 ((100 * r + b) :: sfx) = zon (zrs 0 sfx) r := by
              show zon (zrs 0 sfx) ((100 * r + b) / 100) = _
              rw [show (100 * r + b) / 100 = r by omega]
            rw [er] at ea
            exact ea
          · rw [if_neg q] at hs ⊢
            exact ⟨fun _ => ih2 (by omega) sfx hs, fun z => absurd rfl z⟩
      exact L2 (B r) (Nat.le_refl _) sfx hs
  have h9 := L n (Nat.le_refl _) [] (by rw [List.append_nil])
  exact h9
theorem zpl_hd (l : List Nat) : zhdp l = if l.length = 0 then -1 else ((l.getD 0 0 : Nat) : Int) := by
  cases l with
  | nil => rfl
  | cons x t => rfl
theorem q_places (μ : zM) (hR : zRel μ) (w : Int) : zAsk m_X11_places m_X12_places [zI w] μ := by
  obtain ⟨n, B, nP, nW, hHs, hLR, hC, hM, hLc, hLm, he⟩ := zrd0 hR
  have hR0 := hR
  obtain ⟨-, -, -, -, -, -, -, -, -, -, ⟨N, s1, s2, s3, s4⟩, -⟩ := hR
  have hB : ∀ r, r < n → B r ≤ 12 := fun r hr => (hC.2.2.1 r hr).2.2
  have hn := hC.2.1
  refine k_X11_places 7 w μ _ (s_beyond _ w 2 μ _ (fun q1 q2 => ⟨fun _ => ?_, fun z => absurd rfl z⟩) (fun q => ⟨fun z => absurd z (by decide), fun _ => ?_⟩))
  · obtain ⟨w, rfl⟩ := Int.eq_ofNat_of_zero_le q1
    refine s_findPlaces 2 μ hC hLc s3 s1 (fun k hk => (s4 k hk).1.2) _ (fun μ' hg hf => ?_)
    have hlen := zpl_len (zfit (rC μ 0) B N (μ 24 0) (μ 25 0)) B n hB
    have h6 : ∀ x, x ∈ zpl (zfit (rC μ 0) B N (μ 24 0) (μ 25 0)) B n → x / 100 < 6 := by
      intro x hx
      obtain ⟨r, c, q1, q2, q3⟩ := zpl_in _ B n x hx
      have := hB r q1
      omega
    have hG : zfit (rM μ' 0) B N (fun k => μ' 39 0 (2 * k)) (fun k => μ' 39 0 (2 * k + 1)) = zfit (rC μ 0) B N (μ 24 0) (μ 25 0) := by
      rw [show rM μ' 0 = rM μ 0 from rM_cg (fun k => hg _ _ _ (by omega)) (fun k => hg _ _ _ (by omega)), he]
      funext r b
      refine zal2_ext fun k hk => ?_
      show decide (rC μ 0 r ((b + (μ' 39 0 (2 * k)).toNat) % B r) = μ' 39 0 (2 * k + 1)) = decide (rC μ 0 r ((b + (μ 24 0 k).toNat) % B r) = μ 25 0 k)
      rw [hg _ _ _ (by omega), hg _ _ _ (by omega), (s4 k hk).1.1, (s4 k hk).2.1]
    generalize zfit (rC μ 0) B N (μ 24 0) (μ 25 0) = G at hf hlen h6 hG
    have hR' : zRel μ' := zkp_rel (zgs_kp hg) hR0
    have fin : ∀ x : Int, (w = 0 → x = ((zpl G B n).length : Nat)) → (w = 1 → x = zhdp (zpl G B n)) → (w = 2 → x = zrs 0 (zpl G B n)) → zC1 8 m_X12_places [zR 9 0, zI (w : Int)] μ' (fun y μ2 => x = y ∧ zRel μ2) := by
      intro x h0 h1 h2
      refine s_mplaces 4 w (by omega) μ' (zHm_cg (fun k => hg _ _ _ (by omega)) hM) (zLm_cg (fun k => hg _ _ _ (by omega)) hLm) s3 (by rw [hg _ _ _ (by omega)]; exact s2) (fun k hk => ?_) G hG _ (fun z => ⟨h0 z, hR'⟩) (fun z => ⟨h1 z, hR'⟩) (fun z => ⟨h2 z, hR'⟩)
      rw [hg _ _ _ (by omega), (s4 k hk).1.1]
      exact (s4 k hk).1.2
    refine ⟨fun a0 => ⟨fun a1 => ?_, fun a1 => ?_⟩, fun a0 => k_X10_found 7 μ' _ ?_⟩
    · refine s_roomsFound 6 μ' hf (by omega) h6 _ ?_
      rw [zfl_r _ _ ⟨by decide, by decide⟩ h6]
      exact fin _ (by omega) (by omega) (fun _ => rfl)
    · refine k_X10_firstFound 6 μ' _ ?_
      rw [hf.1]
      refine ⟨fun a2 => s_at_29 6 0 (by omega) μ' _ ?_, fun a2 => fin _ (by omega) (fun _ => ?_) (by omega)⟩
      · refine fin _ (by omega) (fun _ => ?_) (by omega)
        generalize zpl G B n = l at hf a2
        cases l with
        | nil => exact absurd rfl a2
        | cons x t => exact hf.2 0 x rfl
      · generalize zpl G B n = l at a2
        cases l with
        | nil => rfl
        | cons x t => exact absurd (show ((t.length + 1 : Nat) : Int) ≠ 0 by omega) a2
    · rw [hf.1]
      exact fin _ (fun _ => rfl) (by omega) (by omega)
  · exact k_X12_places 7 w μ _ (s_in _ _ _ _ μ _ (fun _ _ => absurd q (by omega)) (fun _ => ⟨fun z => absurd rfl z, fun _ => ⟨rfl, hR0⟩⟩))
