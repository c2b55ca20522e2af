/-! THE TEXT: the class, from its begin to its end -/
theorem c_clause (d a L : Nat) (hL : L ≤ 240) (ha : a < L) (first : Bool) {μ0 μ : zM} {R : Nat → Int} (h : zGst μ0 L a μ) (hD : zDr μ R) (hU : zDu μ R) (hI : zRI R) (ht : μ 3 1 0 = if first = true then 0 else 1) (K : zM → Prop) (h1 : ∀ e R' μ', zclau (μ0 20 0) L first a R = .inr (e, R') → zGst μ0 L e μ' → zDr μ' R' → zDu μ' R' → μ' 3 1 0 = 1 → K μ') (h2 : ∀ f b μ', zclau (μ0 20 0) L first a R = .inl (f, b) → zBd μ0 L f b μ' → K μ') : zC0 (d + 5) m_X7_readClause [zR 2 0] μ K := by
  unfold zclau at h1 h2
  refine k_X7_readClause (d + 4) μ K (e_letter (d + 4) a L hL μ h.2.1 h.1 _ ?_)
  rw [zGs_T h]
  generalize zlt (μ0 20 0) L a = c at h1 h2 ⊢
  cases first with
  | true =>
    rw [if_pos rfl] at ht
    refine ⟨fun q => absurd ht q, fun _ => ⟨fun q => ⟨fun _ => ?_, fun q2 => absurd q q2⟩, fun q => ?_⟩⟩
    · rw [if_pos q, if_pos rfl] at h1 h2
      exact c_damp (d + 1) a L hL ha h hD hU ht K h1 h2
    · rw [if_neg q, if_pos rfl] at h2
      exact g_fail _ a L 1 (by decide) _ a h.2.1 h _ (fun μ1 hb _ => h2 1 a μ1 rfl hb)
  | false =>
    rw [if_neg (by decide)] at ht
    have nf : ¬ (false = true) := by decide
    refine ⟨fun _ => ⟨fun q => ?_, fun q => ?_⟩, fun q => absurd (by omega) q⟩
    · rw [if_pos q, if_neg nf] at h2
      exact c_damp2 (d + 1) a L hL ha h (by omega) K (fun μ' hb => h2 3 a μ' rfl hb)
    · rw [if_neg q, if_neg nf] at h1 h2
      refine ⟨fun y => ?_, fun y => ⟨fun y2 => ?_, fun y2 => ⟨fun y3 => ?_, fun y3 => ⟨fun y4 => ?_, fun y4 => ?_⟩⟩⟩⟩
      · rw [if_neg (by omega), if_neg (by omega), if_pos y] at h1 h2
        exact c_person d a L hL ha h hD hU hI ht K h1 h2
      · rw [if_pos y2] at h1 h2
        exact c_room d a L hL ha h hD hU hI ht K h1 h2
      · rw [if_neg y2, if_pos y3] at h1 h2
        exact c_under d a L hL ha h hD hU hI ht K h1 h2
      · rw [if_neg y2, if_neg y3, if_neg y, if_pos y4] at h1 h2
        exact c_wall d a L hL ha h hD hU hI ht K h1 h2
      · rw [if_neg y2, if_neg y3, if_neg y, if_neg y4] at h2
        exact g_fail _ a L 1 (by decide) _ a h.2.1 h _ (fun μ1 hb _ => h2 1 a μ1 rfl hb)
theorem c_read28 (d L : Nat) (hL : L ≤ 240) {μ0 : zM} (K : Int → zM → Prop) : ∀ (m i a : Nat) (first : Bool) (R : Nat → Int) (μ : zM), L < a + m → i ≤ a → zGst μ0 L a μ → zDr μ R → zDu μ R → zRI R → (μ 3 1 0 = if first = true then 0 else 1) → (∀ fi R' μ', zalls (μ0 20 0) L m first a R = .inr (fi, R') → zGst μ0 L L μ' → zDr μ' R' → zDu μ' R' → zRI R' → (μ' 3 1 0 = if fi = true then 0 else 1) → K 0 (zset μ' 2 0 2 0)) → (∀ f b μ', zalls (μ0 20 0) L m first a R = .inl (f, b) → zBd μ0 L f b μ' → K (f : Int) (zset μ' 2 0 2 0)) → zJ (d + 6) m_X7_read 28 [some (zR 2 0), some (zI (i : Int))] μ (zQ1 K) := by
  intro m
  induction m with
  | zero =>
    intro i a first R μ hm hi h
    have := h.2.2.1
    omega
  | succ m ih =>
    intro i a first R μ hm hi h hD hU hI ht h1 h2
    rw [zall_s] at h1 h2
    have fin : a = L → K ((zset μ 2 0 2 0) 2 0 5) (zset μ 2 0 2 0) := by
      intro z
      subst z
      rw [zo (by omega), h.2.2.2.1]
      exact h1 first R μ (by rw [if_neg (by omega)]) h hD hU hI ht
    refine k_X7_read_28 (d + 5) i μ K ⟨fun q => fin (by have := h.2.2.1; omega), fun q => ⟨fun q2 => absurd h.2.2.2.1 q2, fun q2 => ⟨fun q3 => fin ?_, fun q3 => ?_⟩⟩⟩
    · rw [h.2.1, h.1] at q3
      have := h.2.2.1
      omega
    · rw [h.2.1, h.1] at q3
      have ha : a < L := by omega
      rw [if_pos ha] at h1 h2
      rw [z_fix (show (-2147483648 : Int) ≤ (i : Int) + 1 by omega) (by omega), show (i : Int) + 1 = ((i + 1 : Nat) : Int) by omega]
      refine c_clause d a L hL ha first h hD hU hI ht _ (fun e R' μ1 hz g1 d1 u1 t1 => ?_) (fun f b μ1 hz hb => ?_)
      · rw [hz] at h1 h2
        have hI' := zRI_c ha hI hz
        refine e_skip (d + 4) e L hL g1.2.2.1 μ1 g1.2.1 g1.1 _ (fun μ2 s2 e3 _ => ?_)
        rw [zGs_T g1] at e3
        have hsb := zsb_rg (μ0 20 0) g1.2.2.1
        exact ih (i + 1) (zsb (μ0 20 0) L e) false R' μ2 (by omega) (by omega) (zGs_same g1 s2 e3 hsb.2) (zDr_same s2 d1) (zDu_same s2 u1) hI'.1 (by rw [s2 _ _ _ (by omega), t1, if_neg (by decide)]) h1 h2
      · rw [hz] at h2
        obtain ⟨x, e1, hx⟩ := hb.2.1
        refine e_skip (d + 4) x L hL hx μ1 e1 hb.1 _ (fun μ2 s2 e3 _ => ?_)
        have hb2 := zBd_same hb s2 ⟨_, e3, (zsb_rg _ hx).2⟩
        have fin2 : K ((zset μ2 2 0 2 0) 2 0 5) (zset μ2 2 0 2 0) := by
          rw [zo (by omega), hb2.2.2.1.1]
          exact h2 f b μ2 rfl hb2
        refine k_X7_read_28 (d + 5) _ μ2 K ⟨fun _ => fin2, fun _ => ⟨fun _ => fin2, fun y => absurd ?_ y⟩⟩
        rw [hb2.2.2.1.1]
        have := hb2.2.2.1.2
        omega
theorem zDr_0 {μ : zM} (h3 : ∀ k, 1 ≤ k → k ≤ 5 → μ 3 1 k = 0) (h1 : ∀ k, k < 72 → μ 11 1 k = 0 ∧ μ 12 1 k = 0) : zDr μ (fun _ => 0) ∧ zDu μ (fun _ => 0) := by
  refine ⟨⟨⟨h3 1 (by omega) (by omega), h3 2 (by omega) (by omega), h3 3 (by omega) (by omega), h3 4 (by omega) (by omega)⟩, fun r a b => ?_, fun k hk => h1 k hk, fun p w a b c => ?_, fun w c a b x => ?_⟩, ?_⟩
  · have b2 : (r : Int) < 0 := b
    omega
  · have b2 : (p : Int) < 0 := b
    omega
  · have b2 : (w : Int) < 0 := b
    omega
  · unfold zDu
    rw [h3 5 (by omega) (by omega)]
    refine ⟨⟨by omega, by omega⟩, ?_⟩
    show ∀ r, r < 6 → (0 : Int) = if zbit 0 r = true then 1 else 0
    decide +kernel
theorem zRI_0 : zRI (fun _ => 0) := by
  refine ⟨⟨by decide, by decide⟩, ⟨by decide, by decide⟩, ⟨by decide, by decide⟩, ⟨by decide, by decide⟩, fun r a b => ?_, fun k a b => ⟨show (0 : Int) ≤ 0 by decide, show (0 : Int) ≤ 9 by decide⟩, fun p a b => ?_, fun r a => Or.inl rfl⟩
  · have b2 : (r : Int) < 0 := b
    omega
  · have b2 : (p : Int) < 0 := b
    omega
theorem c_read (d L : Nat) (hL : L ≤ 240) (μ : zM) (e2 : μ 2 0 2 = (L : Int)) (K : Int → zM → Prop) (h1 : ∀ fi R' μ', zalls (μ 20 0) L (L + 1) true (zsb (μ 20 0) L 0) (fun _ => 0) = .inr (fi, R') → zGst μ L L μ' → zDr μ' R' → zDu μ' R' → zRI R' → (μ' 3 1 0 = if fi = true then 0 else 1) → K 0 (zset μ' 2 0 2 0)) (h2 : ∀ f b μ', zalls (μ 20 0) L (L + 1) true (zsb (μ 20 0) L 0) (fun _ => 0) = .inl (f, b) → zBd μ L f b μ' → K (f : Int) (zset μ' 2 0 2 0)) : zC1 (d + 6) m_X7_read [zR 2 0] μ K := by
  refine k_X7_read (d + 5) μ K (k_X1_clear (d + 4) 1 μ _ ⟨Or.inl rfl, s_fill_10 _ 1 0 _ _ (s_fill_11 _ 1 0 _ _ (s_fill_12 _ 1 0 _ _ ?_))⟩)
  generalize hν : zfil (zfil (zfil (zset (zset (zset (zset (zset (zset μ 3 1 0 0) 3 1 1 0) 3 1 2 0) 3 1 3 0) 3 1 4 0) 3 1 5 0) 10 1 6 0) 11 1 72 0) 12 1 72 0 = ν
  have f1 : ∀ t i k, t ≠ 2 → ¬ ((t = 3 ∨ (10 ≤ t ∧ t ≤ 14)) ∧ i = 1) → ν t i k = μ t i k := fun t i k q1 q2 => by
    rw [← hν]
    unfold zfil
    rw [if_neg (by omega), if_neg (by omega), if_neg (by omega), zo (by omega), zo (by omega), zo (by omega), zo (by omega), zo (by omega), zo (by omega)]
  have f2 : ∀ k, ν 2 0 k = μ 2 0 k := fun k => by
    rw [← hν]
    unfold zfil
    rw [if_neg (by omega), if_neg (by omega), if_neg (by omega), zo (by omega), zo (by omega), zo (by omega), zo (by omega), zo (by omega), zo (by omega)]
  have f3 : ∀ k, k ≤ 5 → ν 3 1 k = 0 := fun k hk => by
    rw [← hν]
    unfold zfil
    rw [if_neg (by omega), if_neg (by omega), if_neg (by omega)]
    rcases (show k = 0 ∨ k = 1 ∨ k = 2 ∨ k = 3 ∨ k = 4 ∨ k = 5 by omega) with rfl | rfl | rfl | rfl | rfl | rfl
    · rw [zo (by omega), zo (by omega), zo (by omega), zo (by omega), zo (by omega), zset_self]
    · rw [zo (by omega), zo (by omega), zo (by omega), zo (by omega), zset_self]
    · rw [zo (by omega), zo (by omega), zo (by omega), zset_self]
    · rw [zo (by omega), zo (by omega), zset_self]
    · rw [zo (by omega), zset_self]
    · rw [zset_self]
  have f10 : ∀ k, k < 6 → ν 10 1 k = 0 := fun k hk => by
    rw [← hν]
    unfold zfil
    rw [if_neg (by omega), if_neg (by omega), if_pos ⟨rfl, rfl, hk⟩]
  have f11 : ∀ k, k < 72 → ν 11 1 k = 0 ∧ ν 12 1 k = 0 := fun k hk => by
    rw [← hν]
    unfold zfil
    refine ⟨?_, ?_⟩
    · rw [if_neg (by omega), if_pos ⟨rfl, rfl, hk⟩]
    · rw [if_pos ⟨rfl, rfl, hk⟩]
  generalize hξ : zset (zset (zset ν 2 0 3 0) 2 0 5 0) 2 0 6 (-1) = ξ
  have g1 : ∀ t i k, t ≠ 2 → ξ t i k = ν t i k := fun t i k q => by rw [← hξ, zo (by omega), zo (by omega), zo (by omega)]
  have x2 : ξ 2 0 2 = (L : Int) := by rw [← hξ, zo (by omega), zo (by omega), zo (by omega), f2]; exact e2
  have x3 : ξ 2 0 3 = ((0 : Nat) : Int) := by rw [← hξ, zo (by omega), zo (by omega), zset_self]; rfl
  have x5 : ξ 2 0 5 = 0 := by rw [← hξ, zo (by omega), zset_self]
  have x6 : ξ 2 0 6 = -1 := by rw [← hξ, zset_self]
  have hf : zfd0 μ ξ := ⟨fun t i k q1 q2 => by rw [g1 t i k q1]; exact f1 t i k q1 q2, fun k hk => by rw [g1 _ _ _ (by omega), f10 k hk]; omega⟩
  have hG : zGst μ L 0 ξ := ⟨x2, x3, Nat.zero_le _, x5, x6, hf⟩
  have hDU := zDr_0 (μ := ξ) (fun k a b => by rw [g1 _ _ _ (by omega)]; exact f3 k b) (fun k hk => by rw [g1 _ _ _ (by omega), g1 _ _ _ (by omega)]; exact f11 k hk)
  have ht : ξ 3 1 0 = 0 := by rw [g1 _ _ _ (by omega)]; exact f3 0 (by omega)
  refine e_skip (d + 4) 0 L hL (Nat.zero_le _) ξ x3 x2 _ (fun μ2 s2 e3 _ => ?_)
  rw [zGs_T hG] at e3
  exact c_read28 d L hL K (L + 1) 0 (zsb (μ 20 0) L 0) true (fun _ => 0) μ2 (by omega) (by omega) (zGs_same hG s2 e3 (zsb_rg _ (Nat.zero_le _)).2) (zDr_same s2 hDU.1) (zDu_same s2 hDU.2) zRI_0 (by rw [s2 _ _ _ (by omega), if_pos rfl]; exact ht) h1 h2
