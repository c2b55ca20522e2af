/-! HOUSE: the model, from begin to end -/
abbrev zEnd (d : Nat) (μ : zM) (v : Int) (K : Int → zM → Prop) : Prop := zC0 (d + 6) m_X12_copies [zR 33 1, zI 0, zR 33 0, zI 0, zI 200] (zset (zset μ 9 0 10 0) 33 1 199 v) (fun μ1 => zC0 (d + 6) m_X12_begins [zR 9 0] μ1 (fun μ2 => (0 ≤ (1 : Int) ∧ (1 : Int) < 200) ∧ K (μ2 33 0 1) μ2))
theorem m_house40 (d L : Nat) (hL : L ≤ 240) {μ0 : zM} {T : Nat → Int} (hT : ∀ k, k < L → 0 ≤ T k ∧ T k ≤ 255) (K : Int → zM → Prop) : ∀ (m cnt a e : Nat) (first : Bool) (R : Nat → Int) (μ : zM), L < zsb T L a + m → a ≤ L → cnt ≤ zsb T L a → (first = true ↔ cnt = 0) → zMst μ0 T L e R μ → zStp T L a μ e → zRI R → (∀ fi R' e' μ', zalls T L m first (zsb T L a) R = .inr (fi, R') → zMst μ0 T L e' R' μ' → zEnd d μ' (if fi = true then 0 else 1) K) → (∀ f b μ', zalls T L m first (zsb T L a) R = .inl (f, b) → zMf μ0 f b μ' → K (w32 (-10 - (f : Int))) (zset (zset μ' 9 0 10 0) 9 0 11 (b : Int))) → zJ (d + 7) m_X12_house 40 [some (zR 9 0), some (zI 1), some (zI (cnt : Int))] μ (zQ1 K) := by
  have one : (1 : Int) ≠ 0 := by decide
  intro m
  induction m with
  | zero =>
    intro cnt a e first R μ hm ha
    have := (zsb_rg T ha).2
    omega
  | succ m ih =>
    intro cnt a e first R μ hm ha hcnt hfc h hs hI h1 h2
    rw [zall_s] at h1 h2
    have hsb := zsb_rg T ha
    have neg : μ 9 0 18 < 0 ↔ ¬ zsb T L a < L := by
      rcases hs.2 with ⟨b1, b2, _⟩ | ⟨b1, b2, _⟩
      · rw [b2]
        unfold zlt
        by_cases y : zsb T L a < L
        · rw [if_pos y]
          have := hT _ y
          omega
        · rw [if_neg y]
          omega
      · rw [b2]
        have := (zsd_rg T hsb.2).2
        omega
    refine k_X12_house_40 (d + 6) 1 cnt μ K ⟨fun q => ⟨fun _ => ⟨fun q2 => ⟨by omega, ?_⟩, fun q2 => ⟨by omega, ?_⟩⟩, fun z => absurd one z⟩, fun q => ⟨fun z => absurd z one, fun _ => ?_⟩⟩
    · have hf : first = true := hfc.mpr (by omega)
      have h3 := h1 first R e μ (by rw [if_neg (neg.mp q)]) h
      rw [if_pos hf] at h3
      exact h3
    · have hf : ¬ first = true := fun z => q2 (by have := hfc.mp z; omega)
      have h3 := h1 first R e μ (by rw [if_neg (neg.mp q)]) h
      rw [if_neg hf] at h3
      exact h3
    · have hb : zsb T L a < L := Classical.byContradiction (fun z => q (neg.mpr z))
      rw [if_pos hb] at h1 h2
      have cl : ∀ fl : Int, fl = (if first = true then 1 else 0) → zC1 (d + 6) m_X12_readsClause [zR 9 0, zI fl] μ (fun x9 μ9 => (x9 = 0 → zJ (d + 7) m_X12_house 40 [some (zR 9 0), some (zI x9), some (zI (w32 ((cnt : Int) + 1)))] μ9 (zQ1 K)) ∧ (¬ (x9 = 0) → zC0 (d + 6) m_X12_step [zR 9 0] μ9 (fun μ10 => zJ (d + 7) m_X12_house 40 [some (zR 9 0), some (zI x9), some (zI (w32 ((cnt : Int) + 1)))] μ10 (zQ1 K)))) := by
        intro fl hfl
        subst hfl
        rw [z_fix (show (-2147483648 : Int) ≤ (cnt : Int) + 1 by omega) (by omega), show (cnt : Int) + 1 = ((cnt + 1 : Nat) : Int) by omega]
        refine m_clause d a e first hL hT ha hb h hs hI _ (fun e2 R' μ1 hz g1 => ⟨fun z => absurd z one, fun _ => ?_⟩) (fun f b μ1 hz hf => ⟨fun _ => ?_, fun z => absurd rfl z⟩)
        · rw [hz] at h1 h2
          have hI' := zRI_c hb hI hz
          refine m_step (d + 5) hL hT g1 _ (fun e3 μ2 g2 hs2 => ?_)
          have hsb2 := zsb_rg T g1.1.2.2
          exact ih (cnt + 1) e2 e3 false R' μ2 (by omega) g1.1.2.2 (by omega) ⟨fun z => (by cases z), fun z => absurd z (by omega)⟩ g2 hs2 hI'.1 h1 h2
        · rw [hz] at h2
          have h3 := h2 f b μ1 rfl hf
          have fin : K (w32 (-10 - ((zset (zset μ1 9 0 10 0) 9 0 11 ((zset μ1 9 0 10 0) 9 0 17)) 9 0 21))) (zset (zset μ1 9 0 10 0) 9 0 11 ((zset μ1 9 0 10 0) 9 0 17)) := by
            rw [zo (μ := zset μ1 9 0 10 0) (k := 11) (k' := 21) (by omega), zo (μ := μ1) (k := 10) (k' := 21) (by omega), zo (μ := μ1) (k := 10) (k' := 17) (by omega), hf.1, hf.2.1]
            exact h3
          exact k_X12_house_40 (d + 6) 0 _ μ1 K ⟨fun _ => ⟨fun z => absurd rfl z, fun _ => fin⟩, fun _ => ⟨fun _ => ⟨fun z => absurd rfl z, fun _ => fin⟩, fun z => absurd rfl z⟩⟩
      refine ⟨fun q2 => cl 0 ?_, fun q2 => cl 1 ?_⟩
      · rw [if_neg (fun z => q2 (by have := hfc.mp z; omega))]
      · rw [if_pos (hfc.mpr (by omega))]
theorem m_house (d L : Nat) (hL : L ≤ 240) (μ : zM) {T : Nat → Int} (hT : ∀ k, k < L → 0 ≤ T k ∧ T k ≤ 255) (e10 : μ 9 0 10 = (L : Int)) (e38 : ∀ k, k < L → μ 38 0 k = T k) (K : Int → zM → Prop) (h1 : ∀ fi R' e' μ', zalls T L (L + 1) true (zsb T L 0) (fun _ => 0) = .inr (fi, R') → zMst (zset μ 9 0 11 (-1)) T L e' R' μ' → zEnd d μ' (if fi = true then 0 else 1) K) (h2 : ∀ f b μ', zalls T L (L + 1) true (zsb T L 0) (fun _ => 0) = .inl (f, b) → zMf (zset μ 9 0 11 (-1)) f b μ' → K (w32 (-10 - (f : Int))) (zset (zset μ' 9 0 10 0) 9 0 11 (b : Int))) : zC1 (d + 7) m_X12_house [zR 9 0] μ K := by
  refine k_X12_house (d + 6) μ K ?_
  have M : ∀ m i : Nat, i + m = 200 → ∀ μ', (∀ t x k, ¬ (t = 33 ∧ x = 1) → μ' t x k = μ t x k) → (∀ k, k < i → μ' 33 1 k = 0) → zJ (d + 7) m_X12_house 2 [some (zR 9 0), some (zI (i : Int)), none] μ' (zQ1 K) := by
    intro m
    induction m with
    | zero =>
      intro i hi μ' hf hz
      refine k_X12_house_2 (d + 6) i μ' K ⟨fun _ => ?_, fun q => absurd q (by omega)⟩
      have hst : zMst (zset μ 9 0 11 (-1)) T L 0 (fun _ => 0) (zset (zset μ' 9 0 16 0) 9 0 11 (-1)) := by
        refine ⟨⟨by rw [zo (by omega), zo (by omega), hf _ _ _ (by omega)]; exact e10, by rw [zo (by omega), zset_self]; rfl, Nat.zero_le _⟩, fun k hk => by rw [zo (by omega), zo (by omega), hf _ _ _ (by omega)]; exact e38 k hk, fun k hk => by rw [zo (by omega), zo (by omega)]; exact hz k (by omega), fun t x k q1 q2 => ?_⟩
        by_cases y : t = 9 ∧ x = 0 ∧ k = 11
        · obtain ⟨rfl, rfl, rfl⟩ := y
          rw [zset_self, zset_self]
        · rw [zo (by omega), zo (by omega), zo (by omega)]; exact hf _ _ _ q2
      refine m_step (d + 5) hL hT hst _ (fun e2 μ2 g2 hs2 => ?_)
      exact m_house40 d L hL hT K (L + 1) 0 0 e2 true (fun _ => 0) μ2 (by omega) (Nat.zero_le _) (Nat.zero_le _) ⟨fun _ => rfl, fun _ => rfl⟩ g2 hs2 zRI_0 h1 h2
    | succ m ih =>
      intro i hi μ' hf hz
      refine k_X12_house_2 (d + 6) i μ' K ⟨fun q => absurd q (by omega), fun _ => ⟨⟨by omega, by omega⟩, ?_⟩⟩
      rw [z_fix (by omega) (by omega), Int.toNat_natCast]
      refine ih (i + 1) (by omega) _ (fun t x k q => by rw [zo (by omega)]; exact hf t x k q) (fun k hk => ?_)
      by_cases y : k = i
      · subst y; rw [zset_self]
      · rw [zo (by omega)]; exact hz k (by omega)
  exact M 200 0 (by omega) μ (fun _ _ _ _ => rfl) (fun k hk => absurd hk (by omega))
/-- the model's house becomes what was read; all begins -/
theorem m_end (d : Nat) (μ : zM) (v : Int) (K : Int → zM → Prop) (hK : ∀ μ', (∀ k, k < 200 → μ' 33 0 k = if k = 199 then v else μ 33 1 k) → (∀ k, k < 44 → μ' 34 0 k = if 6 ≤ k ∧ k < 11 then μ 33 1 (160 + (k - 6)) else if 11 ≤ k ∧ k < 16 then μ 33 1 (165 + (k - 11)) else if 16 ≤ k ∧ k < 21 then μ 33 1 (170 + (k - 16)) else 0) → μ' 9 0 5 = 0 → μ' 9 0 13 = 0 → μ' 9 0 15 = 0 → μ' 37 0 0 = 0 → μ' 37 0 1 = 0 → μ' 9 0 10 = 0 → (∀ t i k, ¬ (t = 33) → ¬ (t = 34 ∧ i = 0) → ¬ (t = 9 ∧ (k = 5 ∨ k = 10 ∨ k = 13 ∨ k = 15)) → ¬ (t = 37 ∧ i = 0) → μ' t i k = μ t i k) → K (μ' 33 0 1) μ') : zEnd d μ v K := by
  unfold zEnd
  refine s_copies_33_33 _ 1 0 0 0 200 (by omega) (by omega) (by omega) _ _ ?_
  generalize hν : zcpy (zset (zset μ 9 0 10 0) 33 1 199 v) 33 1 0 33 0 0 200 = ν
  have c33 : ∀ k, k < 200 → ν 33 0 k = if k = 199 then v else μ 33 1 k := fun k hk => by
    rw [← hν, zcyi (by omega) (by omega) rfl rfl, show 0 + (k - 0) = k by omega]
    by_cases y : k = 199
    · subst y; rw [zset_self, if_pos rfl]
    · rw [zo (by omega), zo (by omega), if_neg y]
  have cf : ∀ t i k, ¬ (t = 33) → ¬ (t = 9 ∧ i = 0 ∧ k = 10) → ν t i k = μ t i k := fun t i k q1 q2 => by
    rw [← hν, zcyo (by omega), zo (by omega), zo (by omega)]
  have c10 : ν 9 0 10 = 0 := by rw [← hν, zcyo (by omega), zo (by omega), zset_self]
  refine k_X12_begins (d + 5) ν _ ?_
  have M : ∀ m i : Nat, i + m = 44 → ∀ μ', (∀ t x k, ¬ (t = 34 ∧ x = 0) → μ' t x k = ν t x k) → (∀ k, k < i → μ' 34 0 k = 0) → zJ (d + 6) m_X12_begins 2 [some (zR 9 0), some (zI (i : Int))] μ' (zQ0 (fun μ2 => (0 ≤ (1 : Int) ∧ (1 : Int) < 200) ∧ K (μ2 33 0 1) μ2)) := by
    intro m
    induction m with
    | zero =>
      intro i hi μ' hf hz
      refine k_X12_begins_2 (d + 5) i μ' _ ⟨fun _ => s_copies_33_34 _ 0 160 0 6 5 (by omega) (by omega) _ _ (s_copies_33_34 _ 0 165 0 11 5 (by omega) (by omega) _ _ (s_copies_33_34 _ 0 170 0 16 5 (by omega) (by omega) _ _ ⟨⟨by omega, Or.inl rfl⟩, ⟨by omega, Or.inl rfl⟩, by omega, ?_⟩)), fun q => absurd q (by omega)⟩
      refine hK _ (fun k hk => ?_) (fun k hk => ?_) ?_ ?_ ?_ ?_ ?_ ?_ (fun t x k q1 q2 q3 q4 => ?_)
      · rw [zo (by omega), zo (by omega), zo (by omega), zo (by omega), zo (by omega), zcyo (by omega), zcyo (by omega), zcyo (by omega), hf _ _ _ (by omega)]; exact c33 k hk
      · rw [zo (by omega), zo (by omega), zo (by omega), zo (by omega), zo (by omega)]
        have g : ∀ j, j < 199 → μ' 33 0 j = μ 33 1 j := fun j hj => by rw [hf _ _ _ (by omega), c33 j (by omega), if_neg (by omega)]
        by_cases y1 : 16 ≤ k ∧ k < 21
        · rw [zcyi (by omega) (by omega) rfl rfl, zcyo (by omega), zcyo (by omega), g _ (by omega), if_neg (by omega), if_neg (by omega), if_pos y1]
        · rw [zcyo (by omega)]
          by_cases y2 : 11 ≤ k ∧ k < 16
          · rw [zcyi (by omega) (by omega) rfl rfl, zcyo (by omega), g _ (by omega), if_neg (by omega), if_pos y2]
          · rw [zcyo (by omega)]
            by_cases y3 : 6 ≤ k ∧ k < 11
            · rw [zcyi (by omega) (by omega) rfl rfl, g _ (by omega), if_pos y3]
            · rw [zcyo (by omega), if_neg y3, if_neg y2, if_neg y1]
              exact hz k (by omega)
      · rw [zo (by omega), zo (by omega), zo (by omega), zo (by omega), zset_self]
      · rw [zo (by omega), zo (by omega), zo (by omega), zset_self]
      · rw [zo (by omega), zo (by omega), zset_self]
      · rw [zo (by omega), zset_self]
      · rw [zset_self]
      · rw [zo (by omega), zo (by omega), zo (by omega), zo (by omega), zo (by omega), zcyo (by omega), zcyo (by omega), zcyo (by omega), hf _ _ _ (by omega)]; exact c10
      · rw [zo (by omega), zo (by omega), zo (by omega), zo (by omega), zo (by omega), zcyo (by omega), zcyo (by omega), zcyo (by omega), hf _ _ _ (by omega)]; exact cf _ _ _ q1 (by omega)
    | succ m ih =>
      intro i hi μ' hf hz
      refine k_X12_begins_2 (d + 5) i μ' _ ⟨fun q => absurd q (by omega), fun _ => ⟨⟨by omega, by omega⟩, ?_⟩⟩
      rw [z_fix (by omega) (by omega), Int.toNat_natCast]
      refine ih (i + 1) (by omega) _ (fun t x k q => by rw [zo (by omega)]; exact hf t x k q) (fun k hk => ?_)
      by_cases y : k = i
      · subst y; rw [zset_self]
      · rw [zo (by omega)]; exact hz k (by omega)
  exact M 44 0 (by omega) ν (fun _ _ _ _ => rfl) (fun k hk => absurd hk (by omega))
/-! HOUSE: the class, behind the text -/
theorem c_become (d : Nat) (μ : zM) (h01 : μ 3 1 0 = 0 ∨ μ 3 1 0 = 1) (K : zM → Prop) (hK : ∀ μ', (∀ k, k ≤ 5 → μ' 3 0 k = μ 3 1 k) → (∀ k, k < 6 → μ' 10 0 k = μ 10 1 k) → (∀ k, k < 72 → μ' 11 0 k = μ 11 1 k ∧ μ' 12 0 k = μ 12 1 k) → (∀ k, k < 15 → μ' 13 0 k = μ 13 1 k) → (∀ k, k < 24 → μ' 14 0 k = μ 14 1 k) → (∀ t i k, ¬ ((t = 3 ∨ (10 ≤ t ∧ t ≤ 14)) ∧ i = 0) → μ' t i k = μ t i k) → K μ') : zC0 (d + 2) m_X1_become [zR 3 0, zR 3 1] μ K := by
  refine k_X1_become (d + 1) 0 1 μ K ⟨h01, s_copy_10 d 1 0 _ _ (s_copy_11 d 1 0 _ _ (s_copy_12 d 1 0 _ _ (s_copy_13 d 1 0 _ _ (s_copy_14 d 1 0 _ _ (hK _ ?_ ?_ ?_ ?_ ?_ ?_)))))⟩
  · intro k hk
    rw [zcyo (by omega), zcyo (by omega), zcyo (by omega), zcyo (by omega), zcyo (by omega)]
    rcases (show k = 0 ∨ k = 1 ∨ k = 2 ∨ k = 3 ∨ k = 4 ∨ k = 5 by omega) with rfl | rfl | rfl | rfl | rfl | rfl
    · rw [zo (by omega), zo (by omega), zo (by omega), zo (by omega), zo (by omega), zset_self]
    · rw [zo (by omega), zo (by omega), zo (by omega), zo (by omega), zset_self, zo (by omega)]
    · rw [zo (by omega), zo (by omega), zo (by omega), zset_self, zo (by omega), zo (by omega)]
    · rw [zo (by omega), zo (by omega), zset_self, zo (by omega), zo (by omega), zo (by omega)]
    · rw [zo (by omega), zset_self, zo (by omega), zo (by omega), zo (by omega), zo (by omega)]
    · rw [zset_self, zo (by omega), zo (by omega), zo (by omega), zo (by omega), zo (by omega)]
  · intro k hk
    rw [zcyo (by omega), zcyo (by omega), zcyo (by omega), zcyo (by omega), zcyi (by omega) (by omega) rfl rfl, show 0 + (k - 0) = k by omega, zo (by omega), zo (by omega), zo (by omega), zo (by omega), zo (by omega), zo (by omega)]
  · intro k hk
    refine ⟨?_, ?_⟩
    · rw [zcyo (by omega), zcyo (by omega), zcyo (by omega), zcyi (by omega) (by omega) rfl rfl, show 0 + (k - 0) = k by omega, zcyo (by omega), zo (by omega), zo (by omega), zo (by omega), zo (by omega), zo (by omega), zo (by omega)]
    · rw [zcyo (by omega), zcyo (by omega), zcyi (by omega) (by omega) rfl rfl, show 0 + (k - 0) = k by omega, zcyo (by omega), zcyo (by omega), zo (by omega), zo (by omega), zo (by omega), zo (by omega), zo (by omega), zo (by omega)]
  · intro k hk
    rw [zcyo (by omega), zcyi (by omega) (by omega) rfl rfl, show 0 + (k - 0) = k by omega, zcyo (by omega), zcyo (by omega), zcyo (by omega), zo (by omega), zo (by omega), zo (by omega), zo (by omega), zo (by omega), zo (by omega)]
  · intro k hk
    rw [zcyi (by omega) (by omega) rfl rfl, show 0 + (k - 0) = k by omega, zcyo (by omega), zcyo (by omega), zcyo (by omega), zcyo (by omega), zo (by omega), zo (by omega), zo (by omega), zo (by omega), zo (by omega), zo (by omega)]
  · intro t i k q
    rw [zcyo (by omega), zcyo (by omega), zcyo (by omega), zcyo (by omega), zcyo (by omega), zo (by omega), zo (by omega), zo (by omega), zo (by omega), zo (by omega), zo (by omega)]
theorem c_begin (d nP : Nat) (hp5 : nP ≤ 5) (μ : zM) (e : μ 3 0 3 = (nP : Int)) (K : zM → Prop) (hK : ∀ μ', μ' 4 0 1 = 0 → μ' 4 0 2 = 0 → μ' 4 0 3 = 0 → (∀ k, k < 6 → μ' 15 0 k = 0) → (∀ p, p < nP → μ' 16 0 p = μ 13 0 (3 * p) ∧ μ' 17 0 p = μ 13 0 (3 * p + 1) ∧ μ' 18 0 p = μ 13 0 (3 * p + 2)) → (∀ t i k, ¬ ((t = 4 ∨ (15 ≤ t ∧ t ≤ 18)) ∧ i = 0) → μ' t i k = μ t i k) → K μ') : zC0 (d + 2) m_X3_begin [zR 4 0] μ K := by
  refine k_X3_begin (d + 1) 0 μ K (s_fill_15 _ 0 0 _ _ ?_)
  have M : ∀ m p : Nat, p + m = nP → ∀ μ', μ' 4 0 1 = 0 → μ' 4 0 2 = 0 → μ' 4 0 3 = 0 → (∀ k, k < 6 → μ' 15 0 k = 0) → (∀ x, x < p → μ' 16 0 x = μ 13 0 (3 * x) ∧ μ' 17 0 x = μ 13 0 (3 * x + 1) ∧ μ' 18 0 x = μ 13 0 (3 * x + 2)) → (∀ t i k, ¬ ((t = 4 ∨ (15 ≤ t ∧ t ≤ 18)) ∧ i = 0) → μ' t i k = μ t i k) → zJ (d + 2) m_X3_begin 25 [some (zR 4 0), some (zI (p : Int))] μ' (zQ0 K) := by
    intro m
    induction m with
    | zero =>
      intro p hp μ' a1 a2 a3 a4 a5 a6
      have f : μ' 3 0 3 = (nP : Int) := by rw [a6 _ _ _ (by omega)]; exact e
      rw [show p = nP by omega] at a5 ⊢
      exact k_X3_begin_25 (d + 1) 0 nP μ' K ⟨fun _ => hK μ' a1 a2 a3 a4 a5 a6, fun q => absurd q (by omega)⟩
    | succ m ih =>
      intro p hp μ' a1 a2 a3 a4 a5 a6
      have f : μ' 3 0 3 = (nP : Int) := by rw [a6 _ _ _ (by omega)]; exact e
      refine k_X3_begin_25 (d + 1) 0 p μ' K ⟨fun q => absurd q (by omega), fun _ => s_personPart d 0 p 0 (by omega) (by omega) μ' _ (s_personPart d 0 p 1 (by omega) (by omega) μ' _ (k_X3_setPlace d 0 _ _ _ μ' _ (s_put_16 d 0 p (by omega) _ μ' _ (s_put_17 d 0 p (by omega) _ _ _ (s_personPart d 0 p 2 (by omega) (by omega) _ _ (k_X3_setPace d 0 _ _ _ _ (s_put_18 d 0 p (by omega) _ _ _ ?_)))))))⟩
      rw [z_fix (by omega) (by omega)]
      have g13 : ∀ k, μ' 13 0 k = μ 13 0 k := fun k => a6 _ _ _ (by omega)
      rw [zo (t' := 13) (by omega), zo (t' := 13) (by omega), g13, g13, g13]
      refine ih (p + 1) (by omega) _ ?_ ?_ ?_ (fun k hk => ?_) (fun x hx => ?_) (fun t i k q => ?_)
      · rw [zo (by omega), zo (by omega), zo (by omega)]; exact a1
      · rw [zo (by omega), zo (by omega), zo (by omega)]; exact a2
      · rw [zo (by omega), zo (by omega), zo (by omega)]; exact a3
      · rw [zo (by omega), zo (by omega), zo (by omega)]; exact a4 k hk
      · by_cases y : x = p
        · subst y
          rw [zo (t' := 16) (by omega), zo (t' := 16) (by omega), zset_self, zo (t' := 17) (by omega), zset_self, zset_self]
          exact ⟨rfl, rfl, rfl⟩
        · rw [zo (by omega), zo (by omega), zo (by omega), zo (by omega), zo (by omega), zo (by omega), zo (by omega), zo (by omega), zo (by omega)]
          exact a5 x (by omega)
      · rw [zo (by omega), zo (by omega), zo (by omega)]; exact a6 t i k q
  refine M nP 0 (by omega) _ ?_ ?_ ?_ (fun k hk => ?_) (fun x hx => absurd hx (by omega)) (fun t i k q => ?_)
  · unfold zfil; rw [if_neg (by omega), zo (by omega), zo (by omega), zset_self]
  · unfold zfil; rw [if_neg (by omega), zo (by omega), zset_self]
  · unfold zfil; rw [if_neg (by omega), zset_self]
  · unfold zfil; rw [if_pos ⟨rfl, rfl, hk⟩]
  · unfold zfil; rw [if_neg (by omega), zo (by omega), zo (by omega), zo (by omega)]
