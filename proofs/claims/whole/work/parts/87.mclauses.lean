/-! THE TEXT, clause by clause: the model -/
theorem m_row (d base fewest most : Nat) (hb : base + most ≤ 199) {μ0 : zM} {T : Nat → Int} {L : Nat} (hL : L ≤ 240) (hT : ∀ k, k < L → 0 ≤ T k ∧ T k ≤ 255) (hm12 : most ≤ 12) (K : Int → zM → Prop) : ∀ (m n : Nat), n + m = most → 1 ≤ m → ∀ (a : Nat) (R : Nat → Int) (μ : zM), zMst μ0 T L a R μ → (∀ c e R' μ', zrw T L base fewest most m n a R = .inr (c, e, R') → zMst μ0 T L e R' μ' → μ' 9 0 22 = (c : Int) → K 1 μ') → (∀ f b μ', zrw T L base fewest most m n a R = .inl (f, b) → zMf μ0 f b μ' → K 0 μ') → zJ (d + 4) m_X12_row 6 [some (zR 9 0), some (zI (base : Int)), some (zI (fewest : Int)), some (zI (most : Int)), some (zI (n : Int)), some (zI 1)] μ (zQ1 K) := by
  intro m
  induction m with
  | zero => intro n hn hm; omega
  | succ m ih =>
    intro n hn hm a R μ h h1 h2
    refine k_X12_row_6 (d + 3) base fewest most n 1 μ K ⟨fun q => absurd q (by decide), fun _ => ?_⟩
    rw [z_fix (show (-2147483648 : Int) ≤ (base : Int) + (n : Int) by omega) (by omega), show (base : Int) + (n : Int) = ((base + n : Nat) : Int) by omega, z_fix (show (-2147483648 : Int) ≤ (n : Int) + 1 by omega) (by omega), show (n : Int) + 1 = ((n + 1 : Nat) : Int) by omega]
    refine m_number (d + 1) (base + n) 9 (by omega) hL hT h _ (fun v e μ1 hz g1 _ _ => ⟨fun _ => ?_, fun z => absurd (show (1 : Int) ≠ 0 by decide) z⟩) (fun f b μ1 hz hf => ⟨fun z => absurd rfl z, fun _ => ⟨Or.inl rfl, h2 f b μ1 (zrw_l hz) hf⟩⟩)
    rw [zrw_z hz] at h1 h2
    have g2 := zMst_33 g1 (base + n) v
    refine m_step (d + 2) hL hT g2 _ (fun e2 μ2 g3 hs => ?_)
    have he := g1.1.2.2
    have hsb := zsb_rg T he
    have s17 := hs.1
    have hsg : (zlt T L (zsb T L e) = μ2 9 0 18 ∧ e2 = (if 0 ≤ zlt T L (zsb T L e) then zsb T L e + 1 else zsb T L e)) ∨ (zlt T L (zsb T L e) ≠ 44 ∧ zlt T L (zsb T L e) ≠ 59 ∧ μ2 9 0 18 = 48) := by
      rcases hs.2 with ⟨_, b2, _, b4⟩ | ⟨b1, b2, _⟩
      · exact Or.inl ⟨b2.symm, b4⟩
      · refine Or.inr ?_
        have hd : 48 ≤ T (zsb T L e) ∧ T (zsb T L e) ≤ 57 := by
          by_cases y : 48 ≤ T (zsb T L e) ∧ T (zsb T L e) ≤ 57
          · exact y
          · rw [zsd_n hsb.2 (fun _ => y)] at b1; omega
        have hx : zsb T L e < L := by have := (zsd_rg T hsb.2).2; omega
        have e3 : zlt T L (zsb T L e) = T (zsb T L e) := by unfold zlt; rw [if_pos hx]
        exact ⟨by omega, by omega, b2⟩
    have h1' : ∀ c e' R' μ', (if zlt T L (zsb T L e) = 44 then (if n + 1 = most then (.inl (1, zsb T L e) : zRs (Nat × Nat × (Nat → Int))) else zrw T L base fewest most m (n + 1) (zsb T L e + 1) (zu R (base + n) v)) else if zlt T L (zsb T L e) = 59 ∧ fewest ≤ n + 1 then .inr (n + 1, zsb T L e + 1, zu R (base + n) v) else .inl (1, zsb T L e)) = .inr (c, e', R') → zMst μ0 T L e' R' μ' → μ' 9 0 22 = (c : Int) → K 1 μ' := h1
    have h2' : ∀ f b μ', (if zlt T L (zsb T L e) = 44 then (if n + 1 = most then (.inl (1, zsb T L e) : zRs (Nat × Nat × (Nat → Int))) else zrw T L base fewest most m (n + 1) (zsb T L e + 1) (zu R (base + n) v)) else if zlt T L (zsb T L e) = 59 ∧ fewest ≤ n + 1 then .inr (n + 1, zsb T L e + 1, zu R (base + n) v) else .inl (1, zsb T L e)) = .inl (f, b) → zMf μ0 f b μ' → K 0 μ' := h2
    refine ⟨fun q => ⟨fun _ => ?_, fun z => absurd rfl z⟩, fun q => ⟨fun z => absurd z (by decide), fun _ => ⟨fun q2 => ?_, fun q2 => ?_⟩⟩⟩
    · -- the row ends
      have n44 : zlt T L (zsb T L e) ≠ 44 := by
        rcases hsg with ⟨y, -⟩ | ⟨y, -, -⟩
        · rw [y]; exact q
        · exact y
      rw [if_neg n44] at h1' h2'
      refine k_X12_row_6 (d + 3) base fewest most (n + 1 : Nat) 0 μ2 K ⟨fun _ => ?_, fun z => absurd rfl z⟩
      have b18 : (zset μ2 9 0 22 ((n + 1 : Nat) : Int)) 9 0 18 = μ2 9 0 18 := zo (by omega)
      have b17 : (zset μ2 9 0 22 ((n + 1 : Nat) : Int)) 9 0 17 = ((zsb T L e : Nat) : Int) := by rw [zo (by omega)]; exact s17
      have g4 := zMst_9 g3 22 ((n + 1 : Nat) : Int) (by omega)
      have bad : ¬ (zlt T L (zsb T L e) = 59 ∧ fewest ≤ n + 1) → zC1 (d + 3) m_X12_fails [zR 9 0, zI 1] (zset μ2 9 0 22 ((n + 1 : Nat) : Int)) (fun x1 μ1 => (x1 = 0 → ((0 : Int) = 0 ∨ (0 : Int) = 1) ∧ K 0 μ1) ∧ (¬ (x1 = 0) → ((1 : Int) = 0 ∨ (1 : Int) = 1) ∧ K 1 μ1)) := fun y => m_fails _ 1 _ b17 g4.2.2.2 _ (fun μ' hf => ⟨fun _ => ⟨Or.inl rfl, h2' 1 _ μ' (by rw [if_neg y]) hf⟩, fun z => absurd rfl z⟩)
      rw [b18]
      refine ⟨fun q3 => bad (fun y => ?_), fun q3 => ⟨fun q4 => ⟨Or.inr rfl, ?_⟩, fun q4 => bad (fun y => q4 (by omega))⟩⟩
      · rcases hsg with ⟨y2, -⟩ | ⟨-, y2, -⟩
        · exact q3 (by rw [← y2]; exact y.1)
        · exact y2 y.1
      · have e59 : zlt T L (zsb T L e) = 59 := by
          rcases hsg with ⟨y2, -⟩ | ⟨-, -, y2⟩
          · rw [y2]; exact Classical.byContradiction q3
          · exact absurd (by rw [y2]; decide) q3
        have ee : e2 = zsb T L e + 1 := by
          rcases hsg with ⟨-, y2⟩ | ⟨-, y2, -⟩
          · rw [y2, if_pos (by omega)]
          · exact absurd e59 y2
        rw [ee] at g4
        exact h1' (n + 1) (zsb T L e + 1) _ _ (by rw [if_pos ⟨e59, by omega⟩]) g4 (zset_self _ _ _ _ _)
    · have e44 : zlt T L (zsb T L e) = 44 := by
        rcases hsg with ⟨y2, -⟩ | ⟨-, -, y2⟩
        · rw [y2]; exact Classical.byContradiction q
        · exact absurd (by rw [y2]; decide) q
      have ee : e2 = zsb T L e + 1 := by
        rcases hsg with ⟨-, y2⟩ | ⟨y2, -, -⟩
        · rw [y2, if_pos (by omega)]
        · exact absurd e44 y2
      rw [if_pos e44, if_neg (by omega)] at h1' h2'
      rw [ee] at g3
      exact ih (n + 1) (by omega) (by omega) _ _ μ2 g3 h1' h2'
    · have e44 : zlt T L (zsb T L e) = 44 := by
        rcases hsg with ⟨y2, -⟩ | ⟨-, -, y2⟩
        · rw [y2]; exact Classical.byContradiction q
        · exact absurd (by rw [y2]; decide) q
      rw [if_pos e44, if_pos (by omega)] at h2'
      exact m_fails _ 1 _ s17 g3.2.2.2 _ (fun μ' hf => ⟨Or.inl rfl, h2' 1 _ μ' rfl hf⟩)
theorem m_rowC (d base fewest most : Nat) (hb : base + most ≤ 199) {μ0 : zM} {T : Nat → Int} {L : Nat} (hL : L ≤ 240) (hT : ∀ k, k < L → 0 ≤ T k ∧ T k ≤ 255) (hm12 : most ≤ 12) (hm1 : 1 ≤ most) (K : Int → zM → Prop) (a : Nat) (R : Nat → Int) (μ : zM) (h : zMst μ0 T L a R μ) (h1 : ∀ c e R' μ', zrw T L base fewest most most 0 a R = .inr (c, e, R') → zMst μ0 T L e R' μ' → μ' 9 0 22 = (c : Int) → K 1 μ') (h2 : ∀ f b μ', zrw T L base fewest most most 0 a R = .inl (f, b) → zMf μ0 f b μ' → K 0 μ') : zC1 (d + 4) m_X12_row [zR 9 0, zI (base : Int), zI (fewest : Int), zI (most : Int)] μ K :=
  k_X12_row (d + 3) base fewest most μ K (m_row d base fewest most hb hL hT hm12 K most 0 (by omega) hm1 a R μ h h1 h2)
theorem m_room (d a : Nat) {μ0 μ : zM} {T : Nat → Int} {L : Nat} {R : Nat → Int} (hL : L ≤ 240) (hT : ∀ k, k < L → 0 ≤ T k ∧ T k ≤ 255) (h : zMst μ0 T L (a + 1) R μ) (h17 : μ 9 0 17 = (a : Int)) (hI : zRI R) (K : Int → zM → Prop) (h1 : ∀ e R' μ', zcR T L a R = .inr (e, R') → zMst μ0 T L e R' μ' → K 1 μ') (h2 : ∀ f b μ', zcR T L a R = .inl (f, b) → zMf μ0 f b μ' → K 0 μ') : zC1 (d + 5) m_X12_readsRoom [zR 9 0] μ K := by
  obtain ⟨rn, hrn⟩ := Int.eq_ofNat_of_zero_le hI.2.1.1
  have hr6 := hI.2.1.2
  have e1 : μ 33 1 1 = (rn : Int) := by rw [h.2.2.1 1 (by omega)]; exact hrn
  unfold zcR at h1 h2
  rw [hrn, Int.toNat_natCast] at h1 h2
  refine k_X12_readsRoom (d + 4) μ K ⟨by omega, ?_⟩
  rw [e1]
  refine ⟨fun q => ?_, fun q => m_fails _ 3 a h17 h.2.2.2 _ (fun μ' hf => ⟨Or.inl rfl, h2 3 a μ' ?_ hf⟩)⟩
  · rw [if_neg q] at h1 h2
    rw [z_fix (show (-2147483648 : Int) ≤ 12 * (rn : Int) by omega) (by omega), z_fix (show (-2147483648 : Int) ≤ 16 + 12 * (rn : Int) by omega) (by omega), show 16 + 12 * (rn : Int) = ((16 + 12 * rn : Nat) : Int) by omega]
    refine m_rowC d (16 + 12 * rn) 1 12 (by omega) hL hT (by omega) (by omega) _ (a + 1) R μ h (fun c e R' μ1 hw g1 g22 => ⟨fun _ => ?_, fun z => absurd (show (1 : Int) ≠ 0 by decide) z⟩) (fun f b μ1 hw hf => ⟨fun z => absurd rfl z, fun _ => ⟨Or.inl rfl, h2 f b μ1 (by rw [hw]; rfl) hf⟩⟩)
    obtain ⟨-, -, i3, -⟩ := zrw_iv (most := 12) 12 0 (a + 1) R h.1.2.2 rfl (by omega) _ _ _ hw
    have er : R' 1 = (rn : Int) := by rw [i3 _ (by omega)]; exact hrn
    rw [z_i (c := 4) (m := 4 + rn) (by omega) (by omega), Int.toNat_natCast, g22, zo (μ := μ1) (by omega), g1.2.2.1 1 (by omega), er, z_fix (by omega) (by omega)]
    refine ⟨⟨by omega, by omega⟩, by omega, by omega, Or.inr rfl, h1 e _ _ ?_ (zMst_33 (zMst_33 g1 (4 + rn) (c : Int)) 1 ((rn : Int) + 1))⟩
    rw [hw]; rfl
  · rw [if_pos (Classical.byContradiction q)]
theorem m_under (d a : Nat) {μ0 μ : zM} {T : Nat → Int} {L : Nat} {R : Nat → Int} (hL : L ≤ 240) (hT : ∀ k, k < L → 0 ≤ T k ∧ T k ≤ 255) (h : zMst μ0 T L (a + 1) R μ) (hI : zRI R) (K : Int → zM → Prop) (h1 : ∀ e R' μ', zcU T L a R = .inr (e, R') → zMst μ0 T L e R' μ' → K 1 μ') (h2 : ∀ f b μ', zcU T L a R = .inl (f, b) → zMf μ0 f b μ' → K 0 μ') : zC1 (d + 5) m_X12_readsUnder [zR 9 0] μ K := by
  have i1 := hI.2.1
  unfold zcU at h1 h2
  refine k_X12_readsUnder (d + 4) μ K ⟨by omega, ?_⟩
  rw [h.2.2.1 1 (by omega), z_fix (show (-2147483648 : Int) ≤ R 1 - 1 by omega) (by omega)]
  refine m_number (d + 2) 199 (R 1 - 1) (by omega) hL hT h _ (fun v e μ1 hz g1 g17 g20 => ⟨fun _ => ?_, fun z => absurd (show (1 : Int) ≠ 0 by decide) z⟩) (fun f b μ1 hz hf => ⟨fun z => absurd rfl z, fun _ => ⟨Or.inl rfl, h2 f b μ1 (by rw [hz]; rfl) hf⟩⟩)
  rw [hz] at h1 h2
  have v1 := zNum_v h.1.2.2 hz
  obtain ⟨r, rfl⟩ := Int.eq_ofNat_of_zero_le v1.1
  have hr : r < 6 := by omega
  have hB := hI.2.2.2.2.1 r hr (by omega)
  have h01 := hI.2.2.2.2.2.2.2 r hr
  have g2 := zMst_199 g1 (r : Int)
  have b20 : (zset μ1 33 1 199 (r : Int)) 9 0 20 = (r : Int) := by rw [zo (by omega)]; exact g20
  have b17 : (zset μ1 33 1 199 (r : Int)) 9 0 17 = ((zsb T L (a + 1) : Nat) : Int) := by rw [zo (by omega)]; exact g17
  generalize zset μ1 33 1 199 (r : Int) = ν at g2 b20 b17 ⊢
  have en : ((r : Int)).toNat = r := Int.toNat_natCast r
  rw [b20, z_i (c := 10) (m := 10 + r) (by omega) (by omega), z_i (c := 4) (m := 4 + r) (by omega) (by omega), Int.toNat_natCast, Int.toNat_natCast, g2.2.2.1 (10 + r) (by omega)]
  refine ⟨⟨by omega, by omega⟩, fun q => ⟨⟨by omega, by omega⟩, ⟨by omega, by omega⟩, ⟨by omega, by omega⟩, ?_⟩, fun q => m_fails _ 4 _ b17 g2.2.2.2 _ (fun μ' hf => ⟨Or.inl rfl, h2 4 _ μ' ?_ hf⟩)⟩
  · obtain ⟨Bn, hBn⟩ := Int.eq_ofNat_of_zero_le (show 0 ≤ R (4 + r) by omega)
    have b4 : (zset ν 33 1 (10 + r) 1) 33 1 (4 + r) = (Bn : Int) := by rw [zo (by omega), g2.2.2.1 (4 + r) (by omega)]; exact hBn
    rw [b4, z_fix (show (-2147483648 : Int) ≤ 12 * (r : Int) by omega) (by omega), z_fix (show (-2147483648 : Int) ≤ 88 + 12 * (r : Int) by omega) (by omega), show 88 + 12 * (r : Int) = ((88 + 12 * r : Nat) : Int) by omega]
    have ez : ∀ X : zRs (Nat × Nat × (Nat → Int)), zrw T L (88 + 12 * r) Bn Bn Bn 0 e (zu R (10 + r) 1) = X → (if R (10 + ((r : Int)).toNat) = 1 then (.inl (4, zsb T L (a + 1)) : zRs (Nat × (Nat → Int))) else zbnd (zrw T L (88 + 12 * ((r : Int)).toNat) (R (4 + ((r : Int)).toNat)).toNat (R (4 + ((r : Int)).toNat)).toNat (R (4 + ((r : Int)).toNat)).toNat 0 e (zu R (10 + ((r : Int)).toNat) 1)) fun q' => .inr (q'.2.1, q'.2.2)) = zbnd X fun q' => .inr (q'.2.1, q'.2.2) := by
      intro X hX
      rw [Int.toNat_natCast, hBn, Int.toNat_natCast, if_neg (by omega), hX]
    refine m_rowC d (88 + 12 * r) Bn Bn (by omega) hL hT (by omega) (by omega) _ e _ _ (zMst_33 g2 (10 + r) 1) (fun c e2 R' μ' hw g3 _ => ⟨Or.inr rfl, h1 e2 R' μ' ((ez _ hw).trans rfl) g3⟩) (fun f b μ' hw hf => ⟨Or.inl rfl, h2 f b μ' ((ez _ hw).trans rfl) hf⟩)
  · show (if R (10 + ((r : Int)).toNat) = 1 then _ else _) = _
    rw [en, if_pos (Classical.byContradiction q)]
theorem m_person (d a : Nat) {μ0 μ : zM} {T : Nat → Int} {L : Nat} {R : Nat → Int} (hL : L ≤ 240) (hT : ∀ k, k < L → 0 ≤ T k ∧ T k ≤ 255) (h : zMst μ0 T L (a + 1) R μ) (h17 : μ 9 0 17 = (a : Int)) (hI : zRI R) (K : Int → zM → Prop) (h1 : ∀ e R' μ', zcP T L a R = .inr (e, R') → zMst μ0 T L e R' μ' → K 1 μ') (h2 : ∀ f b μ', zcP T L a R = .inl (f, b) → zMf μ0 f b μ' → K 0 μ') : zC1 (d + 5) m_X12_readsPerson [zR 9 0] μ K := by
  have i1 := hI.2.1
  have i3 := hI.2.2.1
  have one : (1 : Int) ≠ 0 := by decide
  obtain ⟨pn, hpn⟩ := Int.eq_ofNat_of_zero_le i3.1
  have e2 : μ 33 1 2 = (pn : Int) := by rw [h.2.2.1 2 (by omega)]; exact hpn
  unfold zcP at h1 h2
  rw [hpn, Int.toNat_natCast] at h1 h2
  refine k_X12_readsPerson (d + 4) μ K ⟨by omega, ?_⟩
  rw [e2, h.2.2.1 1 (by omega), z_fix (show (-2147483648 : Int) ≤ R 1 - 1 by omega) (by omega)]
  refine ⟨fun q => ⟨by omega, ?_⟩, fun q => m_fails _ 3 a h17 h.2.2.2 _ (fun μ' hf => ⟨Or.inl rfl, h2 3 a μ' ?_ hf⟩)⟩
  · rw [if_neg q] at h1 h2
    rw [z_i (c := 160) (m := 160 + pn) (by omega) (by omega), z_i (c := 165) (m := 165 + pn) (by omega) (by omega), z_i (c := 170) (m := 170 + pn) (by omega) (by omega), Int.toNat_natCast]
    refine m_number (d + 2) (160 + pn) (R 1 - 1) (by omega) hL hT h _ (fun u1 x1 μ1 hz1 g1 _ _ => ⟨fun z => absurd z one, fun _ => ⟨⟨by omega, by omega⟩, ?_⟩⟩) (fun f b μ1 hz hf => ⟨fun _ => ⟨Or.inl rfl, h2 f b μ1 (by rw [hz]; rfl) hf⟩, fun z => absurd rfl z⟩)
    rw [hz1] at h1 h2
    have v1 := zNum_v h.1.2.2 hz1
    obtain ⟨r, rfl⟩ := Int.eq_ofNat_of_zero_le v1.1
    have hr : r < 6 := by omega
    have hB := hI.2.2.2.2.1 r hr (by omega)
    have en : ((r : Int)).toNat = r := Int.toNat_natCast r
    have g1' := zMst_33 g1 (160 + pn) (r : Int)
    have b160 : (zset μ1 33 1 (160 + pn) (r : Int)) 33 1 (160 + pn) = (r : Int) := zset_self _ _ _ _ _
    have b4 : (zset μ1 33 1 (160 + pn) (r : Int)) 33 1 (4 + r) = R (4 + r) := by rw [zo (by omega)]; exact g1.2.2.1 (4 + r) (by omega)
    rw [b160, z_i (c := 4) (m := 4 + r) (by omega) (by omega), Int.toNat_natCast, b4, z_fix (show (-2147483648 : Int) ≤ R (4 + r) - 1 by omega) (by omega)]
    generalize zset μ1 33 1 (160 + pn) (r : Int) = ν1 at g1' ⊢
    refine ⟨⟨by omega, by omega⟩, m_number (d + 2) (165 + pn) (R (4 + r) - 1) (by omega) hL hT g1' _ (fun u2 x2 μ2 hz2 g2 _ _ => ⟨fun _ => ⟨by omega, by omega, ?_⟩, fun z => absurd one z⟩) (fun f b μ2 hz hf => ⟨fun z => absurd rfl z, fun _ => ⟨Or.inl rfl, h2 f b μ2 ?_ hf⟩⟩)⟩
    · have v2 := zNum_v g1.1.2.2 hz2
      have g2' := zMst_33 g2 (165 + pn) u2
      have c2 : (zset μ2 33 1 (165 + pn) u2) 33 1 2 = (pn : Int) := by rw [zo (by omega), g2.2.2.1 2 (by omega), zu_o (by omega)]; exact hpn
      rw [c2, z_fix (show (-2147483648 : Int) ≤ (pn : Int) + 1 by omega) (by omega)]
      have g3' := zMst_33 g2' 2 ((pn : Int) + 1)
      generalize zset (zset μ2 33 1 (165 + pn) u2) 33 1 2 ((pn : Int) + 1) = ν2 at g3' ⊢
      refine m_number (d + 2) (170 + pn) 9 (by omega) hL hT g3' _ (fun u3 x3 μ3 hz3 g3 _ _ => ⟨fun z => absurd z one, fun _ => m_ends (d + 2) hL hT (zMst_33 g3 (170 + pn) u3) _ (fun x4 μ4 hp g4 => ⟨fun z => absurd z one, fun _ => ⟨Or.inr rfl, h1 x4 _ μ4 ?_ g4⟩⟩) (fun f b μ4 hp hf => ⟨fun _ => ⟨Or.inl rfl, h2 f b μ4 ?_ hf⟩, fun z => absurd rfl z⟩)⟩) (fun f b μ3 hz hf => ⟨fun _ => ⟨Or.inl rfl, h2 f b μ3 ?_ hf⟩, fun z => absurd rfl z⟩)
      · show zbnd (zNum T L x1 (R (4 + ((r : Int)).toNat) - 1)) _ = _
        rw [en, hz2]
        show zbnd (zNum T L x2 9) _ = _
        rw [hz3]
        show zbnd (zPun T L x3 59) _ = _
        rw [hp]; rfl
      · show zbnd (zNum T L x1 (R (4 + ((r : Int)).toNat) - 1)) _ = _
        rw [en, hz2]
        show zbnd (zNum T L x2 9) _ = _
        rw [hz3]
        show zbnd (zPun T L x3 59) _ = _
        rw [hp]; rfl
      · show zbnd (zNum T L x1 (R (4 + ((r : Int)).toNat) - 1)) _ = _
        rw [en, hz2]
        show zbnd (zNum T L x2 9) _ = _
        rw [hz]; rfl
    · show zbnd (zNum T L x1 (R (4 + ((r : Int)).toNat) - 1)) _ = _
      rw [en, hz]; rfl
  · rw [if_pos (Classical.byContradiction q)]
theorem m_wall (d a : Nat) {μ0 μ : zM} {T : Nat → Int} {L : Nat} {R : Nat → Int} (hL : L ≤ 240) (hT : ∀ k, k < L → 0 ≤ T k ∧ T k ≤ 255) (h : zMst μ0 T L (a + 1) R μ) (h17 : μ 9 0 17 = (a : Int)) (hI : zRI R) (K : Int → zM → Prop) (h1 : ∀ e R' μ', zcW T L a R = .inr (e, R') → zMst μ0 T L e R' μ' → K 1 μ') (h2 : ∀ f b μ', zcW T L a R = .inl (f, b) → zMf μ0 f b μ' → K 0 μ') : zC1 (d + 5) m_X12_readsWall [zR 9 0] μ K := by
  have i1 := hI.2.1
  have i3 := hI.2.2.2.1
  have one : (1 : Int) ≠ 0 := by decide
  obtain ⟨pn, hpn⟩ := Int.eq_ofNat_of_zero_le i3.1
  have e2 : μ 33 1 3 = (pn : Int) := by rw [h.2.2.1 3 (by omega)]; exact hpn
  unfold zcW at h1 h2
  rw [hpn, Int.toNat_natCast] at h1 h2
  refine k_X12_readsWall (d + 4) μ K ⟨by omega, ?_⟩
  rw [e2, h.2.2.1 1 (by omega), z_fix (show (-2147483648 : Int) ≤ R 1 - 1 by omega) (by omega)]
  refine ⟨fun q => ⟨by omega, ?_⟩, fun q => m_fails _ 3 a h17 h.2.2.2 _ (fun μ' hf => ⟨Or.inl rfl, h2 3 a μ' ?_ hf⟩)⟩
  · rw [if_neg q] at h1 h2
    rw [z_i (c := 175) (m := 175 + pn) (by omega) (by omega), z_i (c := 181) (m := 181 + pn) (by omega) (by omega), z_i (c := 187) (m := 187 + pn) (by omega) (by omega), z_i (c := 193) (m := 193 + pn) (by omega) (by omega), Int.toNat_natCast, Int.toNat_natCast]
    refine m_number (d + 2) (175 + pn) (R 1 - 1) (by omega) hL hT h _ (fun u1 x1 μ1 hz1 g1 _ _ => ⟨fun z => absurd z one, fun _ => ⟨⟨by omega, by omega⟩, ?_⟩⟩) (fun f b μ1 hz hf => ⟨fun _ => ⟨Or.inl rfl, h2 f b μ1 (by rw [hz]; rfl) hf⟩, fun z => absurd rfl z⟩)
    rw [hz1] at h1 h2
    have v1 := zNum_v h.1.2.2 hz1
    obtain ⟨r, rfl⟩ := Int.eq_ofNat_of_zero_le v1.1
    have hr : r < 6 := by omega
    have hB := hI.2.2.2.2.1 r hr (by omega)
    have en : ((r : Int)).toNat = r := Int.toNat_natCast r
    have g1' := zMst_33 g1 (175 + pn) (r : Int)
    have b175 : (zset μ1 33 1 (175 + pn) (r : Int)) 33 1 (175 + pn) = (r : Int) := zset_self _ _ _ _ _
    have b4 : (zset μ1 33 1 (175 + pn) (r : Int)) 33 1 (4 + r) = R (4 + r) := by rw [zo (by omega)]; exact g1.2.2.1 (4 + r) (by omega)
    rw [b175, z_i (c := 4) (m := 4 + r) (by omega) (by omega), Int.toNat_natCast, b4, z_fix (show (-2147483648 : Int) ≤ R (4 + r) - 1 by omega) (by omega)]
    generalize zset μ1 33 1 (175 + pn) (r : Int) = ν1 at g1' b175 ⊢
    refine ⟨⟨by omega, by omega⟩, m_number (d + 2) (181 + pn) (R (4 + r) - 1) (by omega) hL hT g1' _ (fun u2 x2 μ2 hz2 g2 _ _ => ⟨fun z => absurd z one, fun _ => ⟨by omega, ?_⟩⟩) (fun f b μ2 hz hf => ⟨fun _ => ⟨Or.inl rfl, h2 f b μ2 ?_ hf⟩, fun z => absurd rfl z⟩)⟩
    · have v2 := zNum_v g1.1.2.2 hz2
      have g2' := zMst_33 g2 (181 + pn) u2
      have c1 : (zset μ2 33 1 (181 + pn) u2) 33 1 1 = R 1 := by rw [zo (by omega), g2.2.2.1 1 (by omega), zu_o (by omega)]
      rw [c1, z_fix (show (-2147483648 : Int) ≤ R 1 - 1 by omega) (by omega)]
      generalize zset μ2 33 1 (181 + pn) u2 = ν2 at g2' ⊢
      refine m_number (d + 2) (187 + pn) (R 1 - 1) (by omega) hL hT g2' _ (fun u3 x3 μ3 hz3 g3 g317 _ => ⟨fun _ => ⟨⟨by omega, by omega⟩, ⟨by omega, by omega⟩, ?_⟩, fun z => absurd one z⟩) (fun f b μ3 hz hf => ⟨fun z => absurd rfl z, fun _ => ⟨Or.inl rfl, h2 f b μ3 ?_ hf⟩⟩)
      · have v3 := zNum_v g2.1.2.2 hz3
        obtain ⟨t, rfl⟩ := Int.eq_ofNat_of_zero_le v3.1
        have et : ((t : Int)).toNat = t := Int.toNat_natCast t
        have ht6 : t < 6 := by omega
        have hB6 := hI.2.2.2.2.1 t ht6 (by omega)
        have g3' := zMst_33 g3 (187 + pn) (t : Int)
        have d187 : (zset μ3 33 1 (187 + pn) (t : Int)) 33 1 (187 + pn) = (t : Int) := zset_self _ _ _ _ _
        have d175 : (zset μ3 33 1 (187 + pn) (t : Int)) 33 1 (175 + pn) = (r : Int) := by rw [zo (by omega), g3.2.2.1 (175 + pn) (by omega), zu_o (by omega), zu_i]
        have d17 : (zset μ3 33 1 (187 + pn) (t : Int)) 9 0 17 = ((zsb T L x2 : Nat) : Int) := by rw [zo (by omega)]; exact g317
        have d3 : (zset μ3 33 1 (187 + pn) (t : Int)) 33 1 3 = (pn : Int) := by rw [zo (by omega), g3.2.2.1 3 (by omega), zu_o (by omega), zu_o (by omega)]; exact hpn
        have d4 : (zset μ3 33 1 (187 + pn) (t : Int)) 33 1 (4 + t) = R (4 + t) := by rw [zo (by omega), g3.2.2.1 (4 + t) (by omega), zu_o (by omega), zu_o (by omega)]
        generalize zset μ3 33 1 (187 + pn) (t : Int) = ν3 at g3' d187 d175 d17 d3 d4 ⊢
        rw [d187, d175, d3, z_fix (show (-2147483648 : Int) ≤ (pn : Int) + 1 by omega) (by omega)]
        have f187 : (zset ν3 33 1 3 ((pn : Int) + 1)) 33 1 (187 + pn) = (t : Int) := by rw [zo (by omega)]; exact d187
        have f4 : (zset ν3 33 1 3 ((pn : Int) + 1)) 33 1 (4 + t) = R (4 + t) := by rw [zo (by omega)]; exact d4
        rw [f187, z_i (c := 4) (m := 4 + t) (by omega) (by omega), Int.toNat_natCast, f4, z_fix (show (-2147483648 : Int) ≤ R (4 + t) - 1 by omega) (by omega)]
        have g4' := zMst_33 g3' 3 ((pn : Int) + 1)
        generalize zset ν3 33 1 3 ((pn : Int) + 1) = ν4 at g4' ⊢
        refine ⟨fun y => ⟨by omega, by omega, ⟨by omega, by omega⟩, ⟨by omega, by omega⟩, m_number (d + 2) (193 + pn) (R (4 + t) - 1) (by omega) hL hT g4' _ (fun u4 x4 μ5 hz4 g5 _ _ => ⟨fun z => absurd z one, fun _ => m_ends (d + 2) hL hT (zMst_33 g5 (193 + pn) u4) _ (fun x5 μ6 hp g6 => ⟨fun z => absurd z one, fun _ => ⟨Or.inr rfl, h1 x5 _ μ6 ?_ g6⟩⟩) (fun f b μ6 hp hf => ⟨fun _ => ⟨Or.inl rfl, h2 f b μ6 ?_ hf⟩, fun z => absurd rfl z⟩)⟩) (fun f b μ5 hz hf => ⟨fun _ => ⟨Or.inl rfl, h2 f b μ5 ?_ hf⟩, fun z => absurd rfl z⟩)⟩, fun y => m_fails _ 4 _ d17 g3'.2.2.2 _ (fun μ' hf => ⟨Or.inl rfl, h2 4 _ μ' ?_ hf⟩)⟩
        · show zbnd (zNum T L x1 (R (4 + ((r : Int)).toNat) - 1)) _ = _
          rw [en, hz2]
          show zbnd (zNum T L x2 (R 1 - 1)) _ = _
          rw [hz3]
          show (if (t : Int) = (r : Int) then _ else zbnd (zNum T L x3 (R (4 + ((t : Int)).toNat) - 1)) _) = _
          rw [if_neg y, et, hz4]
          show zbnd (zPun T L x4 59) _ = _
          rw [hp]; rfl
        · show zbnd (zNum T L x1 (R (4 + ((r : Int)).toNat) - 1)) _ = _
          rw [en, hz2]
          show zbnd (zNum T L x2 (R 1 - 1)) _ = _
          rw [hz3]
          show (if (t : Int) = (r : Int) then _ else zbnd (zNum T L x3 (R (4 + ((t : Int)).toNat) - 1)) _) = _
          rw [if_neg y, et, hz4]
          show zbnd (zPun T L x4 59) _ = _
          rw [hp]; rfl
        · show zbnd (zNum T L x1 (R (4 + ((r : Int)).toNat) - 1)) _ = _
          rw [en, hz2]
          show zbnd (zNum T L x2 (R 1 - 1)) _ = _
          rw [hz3]
          show (if (t : Int) = (r : Int) then _ else zbnd (zNum T L x3 (R (4 + ((t : Int)).toNat) - 1)) _) = _
          rw [if_neg y, et, hz]; rfl
        · show zbnd (zNum T L x1 (R (4 + ((r : Int)).toNat) - 1)) _ = _
          rw [en, hz2]
          show zbnd (zNum T L x2 (R 1 - 1)) _ = _
          rw [hz3]
          show (if (t : Int) = (r : Int) then _ else _) = _
          rw [if_pos (Classical.byContradiction y)]
      · show zbnd (zNum T L x1 (R (4 + ((r : Int)).toNat) - 1)) _ = _
        rw [en, hz2]
        show zbnd (zNum T L x2 (R 1 - 1)) _ = _
        rw [hz]; rfl
    · show zbnd (zNum T L x1 (R (4 + ((r : Int)).toNat) - 1)) _ = _
      rw [en, hz]; rfl
  · rw [if_pos (Classical.byContradiction q)]
theorem m_clause (d a e : Nat) (first : Bool) {μ0 μ : zM} {T : Nat → Int} {L : Nat} {R : Nat → Int} (hL : L ≤ 240) (hT : ∀ k, k < L → 0 ≤ T k ∧ T k ≤ 255) (haL : a ≤ L) (hb : zsb T L a < L) (h : zMst μ0 T L e R μ) (hs : zStp T L a μ e) (hI : zRI R) (K : Int → zM → Prop) (h1 : ∀ e R' μ', zclau T L first (zsb T L a) R = .inr (e, R') → zMst μ0 T L e R' μ' → K 1 μ') (h2 : ∀ f b μ', zclau T L first (zsb T L a) R = .inl (f, b) → zMf μ0 f b μ' → K 0 μ') : zC1 (d + 6) m_X12_readsClause [zR 9 0, zI (if first = true then 1 else 0)] μ K := by
  have one : (1 : Int) ≠ 0 := by decide
  have el : zlt T L (zsb T L a) = T (zsb T L a) := by unfold zlt; rw [if_pos hb]
  have hTb := hT _ hb
  unfold zclau at h1 h2
  have s17 := hs.1
  have fl : ∀ f : Nat, (∀ μ', zMf μ0 f (zsb T L a) μ' → K 0 μ') → zC1 (d + 5) m_X12_fails [zR 9 0, zI (f : Int)] μ (fun x1 μ1 => (x1 = 0 ∨ x1 = 1) ∧ K x1 μ1) := fun f hf => m_fails _ f _ s17 h.2.2.2 _ (fun μ' q => ⟨Or.inl rfl, hf μ' q⟩)
  have w : ∀ μ2 : zM, K 1 μ2 → ((1 : Int) = 0 ∨ (1 : Int) = 1) ∧ K 1 μ2 := fun _ k => ⟨Or.inr rfl, k⟩
  have w0 : ∀ μ2 : zM, K 0 μ2 → ((0 : Int) = 0 ∨ (0 : Int) = 1) ∧ K 0 μ2 := fun _ k => ⟨Or.inl rfl, k⟩
  rw [el] at h1 h2
  -- the sign: the letter, or 48 for a figure
  have hsg : (μ 9 0 18 = T (zsb T L a) ∧ ¬ (48 ≤ T (zsb T L a) ∧ T (zsb T L a) ≤ 57) ∧ e = zsb T L a + 1) ∨ (μ 9 0 18 = 48 ∧ 48 ≤ T (zsb T L a) ∧ T (zsb T L a) ≤ 57) := by
    rcases hs.2 with ⟨_, b2, b3, b4⟩ | ⟨b1, b2, _⟩
    · rw [el] at b2 b3 b4
      rw [if_pos hTb.1] at b4
      exact Or.inl ⟨b2, b3, b4⟩
    · have hd : 48 ≤ T (zsb T L a) ∧ T (zsb T L a) ≤ 57 := by
        by_cases y : 48 ≤ T (zsb T L a) ∧ T (zsb T L a) ≤ 57
        · exact y
        · rw [zsd_n (zsb_rg T haL).2 (fun _ => y)] at b1; omega
      exact Or.inr ⟨b2, hd⟩
  generalize hc : T (zsb T L a) = c at h1 h2 hsg hTb
  generalize hbb : zsb T L a = b at h1 h2 hsg s17 fl
  have he : c = 100 ∨ c = 112 ∨ c = 114 ∨ c = 117 ∨ c = 119 → zMst μ0 T L (b + 1) R μ := by
    intro y
    rcases hsg with ⟨-, -, y3⟩ | ⟨-, y3, y4⟩
    · rw [← y3]; exact h
    · omega
  cases first with
  | true =>
    rw [if_pos (show true = true from rfl)]
    rw [if_pos (show true = true from rfl), if_pos (show true = true from rfl)] at h1 h2
    refine k_X12_readsClause (d + 5) 1 μ K ⟨fun q => ⟨fun z => absurd z one, fun _ => fl 1 (fun μ' hf => h2 1 b μ' ?_ hf)⟩, fun q => ⟨fun z => absurd z one, fun _ => ?_⟩⟩
    · rw [if_neg (by omega)]
    · have c100 : c = 100 := by omega
      rw [if_pos c100] at h1 h2
      unfold zcD at h1 h2
      refine m_number (d + 3) 0 99 (by omega) hL hT (he (by omega)) _ (fun v x μ1 hz g1 _ _ => ⟨fun z => absurd z one, fun _ => m_ends (d + 3) hL hT (zMst_33 g1 0 v) _ (fun x2 μ2 hp g2 => ⟨fun z => absurd z one, fun _ => w μ2 (h1 x2 _ μ2 ?_ g2)⟩) (fun f b2 μ2 hp hf => ⟨fun _ => w0 μ2 (h2 f b2 μ2 ?_ hf), fun z => absurd rfl z⟩)⟩) (fun f b2 μ1 hz hf => ⟨fun _ => w0 μ1 (h2 f b2 μ1 ?_ hf), fun z => absurd rfl z⟩)
      · rw [hz]
        show zbnd (zPun T L x 59) _ = _
        rw [hp]; rfl
      · rw [hz]
        show zbnd (zPun T L x 59) _ = _
        rw [hp]; rfl
      · rw [hz]; rfl
  | false =>
    have nf : ¬ (false = true) := by decide
    rw [if_neg nf]
    rw [if_neg nf, if_neg nf] at h1 h2
    have f1 : c ≠ 100 → c ≠ 112 → c ≠ 114 → c ≠ 117 → c ≠ 119 → zC1 (d + 5) m_X12_fails [zR 9 0, zI 1] μ (fun x1 μ1 => (x1 = 0 ∨ x1 = 1) ∧ K x1 μ1) := fun y1 y2 y3 y4 y5 => fl 1 (fun μ' hf => h2 1 b μ' (by rw [if_neg y1, if_neg y3, if_neg y4, if_neg y2, if_neg y5]) hf)
    refine k_X12_readsClause (d + 5) 0 μ K ⟨fun q => ⟨fun _ => ⟨fun y => ?_, fun y => ?_, fun y => ?_, fun y => ?_, fun y => ?_, fun y => ?_, fun y => ?_, fun y => ?_, fun y => ?_, trivial⟩, fun z => absurd rfl z⟩, fun q => ⟨fun _ => fl 3 (fun μ' hf => h2 3 b μ' ?_ hf), fun z => absurd rfl z⟩⟩
    · exact f1 (by omega) (by omega) (by omega) (by omega) (by omega)
    · have cc : c = 112 := by omega
      rw [if_neg (by omega), if_neg (by omega), if_neg (by omega), if_pos cc] at h1 h2
      exact m_person d b hL hT (he (by omega)) s17 hI _ (fun e R' μ' k1 k2 => w μ' (h1 e R' μ' k1 k2)) (fun f b2 μ' k1 k2 => w0 μ' (h2 f b2 μ' k1 k2))
    · exact f1 (by omega) (by omega) (by omega) (by omega) (by omega)
    · have cc : c = 114 := by omega
      rw [if_neg (by omega), if_pos cc] at h1 h2
      exact m_room d b hL hT (he (by omega)) s17 hI _ (fun e R' μ' k1 k2 => w μ' (h1 e R' μ' k1 k2)) (fun f b2 μ' k1 k2 => w0 μ' (h2 f b2 μ' k1 k2))
    · exact f1 (by omega) (by omega) (by omega) (by omega) (by omega)
    · exact f1 (by omega) (by omega) (by omega) (by omega) (by omega)
    · have cc : c = 117 := by omega
      rw [if_neg (by omega), if_neg (by omega), if_pos cc] at h1 h2
      exact m_under d b hL hT (he (by omega)) hI _ (fun e R' μ' k1 k2 => w μ' (h1 e R' μ' k1 k2)) (fun f b2 μ' k1 k2 => w0 μ' (h2 f b2 μ' k1 k2))
    · exact f1 (by omega) (by omega) (by omega) (by omega) (by omega)
    · have cc : c = 119 := by omega
      rw [if_neg (by omega), if_neg (by omega), if_neg (by omega), if_neg (by omega), if_pos cc] at h1 h2
      exact m_wall d b hL hT (he (by omega)) s17 hI _ (fun e R' μ' k1 k2 => w μ' (h1 e R' μ' k1 k2)) (fun f b2 μ' k1 k2 => w0 μ' (h2 f b2 μ' k1 k2))
    · rw [if_pos (by omega)]
