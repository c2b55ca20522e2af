/-! UNDO, KEEP, GO BACK, both sides -/
theorem zLR_mv {μ μ' : zM} {n : Nat} {B : Nat → Nat} {nP j T i o j' T' i' o' : Nat} (hp5 : nP ≤ 5) (h4 : ∀ k, 1 ≤ k → k ≤ 3 → μ' 4 j' k = μ 4 j k) (h15 : ∀ k, k < 6 → μ' 15 j' k = μ 15 j k) (h16 : ∀ t k, 16 ≤ t → t ≤ 18 → k < 5 → μ' t j' k = μ t j k) (h19 : ∀ k, k < 20 → μ' 19 j' k = μ 19 j k) (g : ∀ k, k < 44 → μ' T' i' (o' + k) = μ T i (o + k)) (q : zLR μ n B nP j T i o) : zLR μ' n B nP j' T' i' o' := by
  obtain ⟨S, M, g1, g2, g3, g4⟩ := zLR_to q
  exact zLR_of g1 (zLC_cg hp5 h4 h15 h16 h19 g2) (zLN_cg hp5 g g3) g4
theorem q_undo (μ : zM) (hR : zRel μ) (a : Int) : zAsk m_X11_undo m_X12_undo [zI a] μ := by
  have hR0 := hR
  obtain ⟨n, B, nP, nW, r1, ⟨r2, r3⟩, r4, ⟨N, X, p1, p2, p3, p4, p5, p6⟩, r6, r7, r8, r9⟩ := hR
  have hp5 := r1.2.2.2.2.2.2.2.1.2.2.1
  have out : ¬ (1 ≤ a ∧ a ≤ 30) → zC1 8 m_X12_undo [zR 9 0, zI a] μ (fun y μ2 => (-1000000002 : Int) = y ∧ zRel μ2) := fun q => k_X12_undo 7 a μ _ (s_in _ _ _ _ _ _ (fun _ _ => absurd q (by omega)) (fun _ => ⟨fun z => absurd rfl z, fun _ => ⟨rfl, hR0⟩⟩))
  refine k_X11_undo 7 a μ _ ⟨fun q => out (by omega), fun q1 => ⟨fun q2 => k_X6_size 7 μ _ ?_, fun q => out (by omega)⟩⟩
  rw [p1]
  refine ⟨fun q3 => ?_, fun q3 => ?_⟩
  · obtain ⟨u, rfl⟩ := Int.eq_ofNat_of_zero_le (show 0 ≤ a by omega)
    refine k_X6_takeBack 6 u 0 μ _ ⟨by decide, ?_⟩
    rw [p4, show Int.tmod (w32 (w32 ((X : Int) + 30) - (u : Int))) 30 = (((X + 30 - u) % 30 : Nat) : Int) by rw [z_fix (show (-2147483648 : Int) ≤ (X : Int) + 30 by omega) (by omega), z_fix (by omega) (by omega), show (X : Int) + 30 - (u : Int) = ((X + 30 - u : Nat) : Int) by omega]; rfl]
    refine k_X6_kept 6 _ μ _ ⟨fun q => absurd q (by omega), fun _ => ⟨fun q => absurd q (by omega), fun _ => ⟨⟨by omega, by omega⟩, ?_⟩⟩⟩
    rw [Int.toNat_natCast]
    refine s_become 4 0 (2 + (X + 30 - u) % 30) (by omega) μ _ (fun μ1 hb => ?_)
    obtain ⟨b1, b2, b3, b4, b5⟩ := hb
    unfold zlv at b5
    rw [show (zset μ1 5 0 2 (((X + 30 - u) % 30 : Nat) : Int)) 5 0 1 = (N : Int) by rw [zo (by omega), b5 _ _ _ (by omega)]; exact p1, z_fix (by omega) (by omega), show (N : Int) - (u : Int) = ((N - u : Nat) : Int) by omega]
    refine k_X12_undo 7 u _ _ (s_in _ _ _ _ _ _ (fun _ _ => ⟨fun _ => ?_, fun z => absurd (show (1 : Int) ≠ 0 by decide) z⟩) (fun q => absurd q (by omega)))
    have e9 : (zset (zset μ1 5 0 2 (((X + 30 - u) % 30 : Nat) : Int)) 5 0 1 ((N - u : Nat) : Int)) 9 0 5 = (N : Int) := by rw [zo (by omega), zo (by omega), b5 _ _ _ (by omega)]; exact p2
    rw [e9, z_fix (show (-2147483648 : Int) ≤ (N : Int) - (u : Int) by omega) (by omega), show (N : Int) - (u : Int) = ((N - u : Nat) : Int) by omega, zset_self, show w32 (44 * ((N - u : Nat) : Int)) = ((44 * (N - u) : Nat) : Int) by rw [z_fix (by omega) (by omega)]; omega]
    refine ⟨fun _ => s_copies_35_34 7 (44 * (N - u)) 0 0 44 (by omega) (by omega) _ _ ⟨by omega, ?_⟩, fun z => absurd q3 (by omega)⟩
    have fr : ∀ t i k, ¬ ((t = 4 ∨ 15 ≤ t ∧ t ≤ 19) ∧ i = 0) → ¬ (t = 5 ∧ (k = 1 ∨ k = 2)) → ¬ (t = 9 ∧ k = 5) → ¬ (t = 34 ∧ i = 0) → zcpy (zset (zset (zset μ1 5 0 2 (((X + 30 - u) % 30 : Nat) : Int)) 5 0 1 ((N - u : Nat) : Int)) 9 0 5 ((N - u : Nat) : Int)) 35 0 (44 * (N - u)) 34 0 0 44 t i k = μ t i k := by
      intro t i k h1 h2 h3 h4
      rw [zcyo (by omega), zo (by omega), zo (by omega), zo (by omega)]
      exact b5 t i k (by omega)
    have old := p6 (N - u) (by omega)
    rw [show (X + 30 - N + (N - u)) % 30 = (X + 30 - u) % 30 by omega] at old
    have new : zLR (zcpy (zset (zset (zset μ1 5 0 2 (((X + 30 - u) % 30 : Nat) : Int)) 5 0 1 ((N - u : Nat) : Int)) 9 0 5 ((N - u : Nat) : Int)) 35 0 (44 * (N - u)) 34 0 0 44) n B nP 0 34 0 0 := by
      refine zLR_mv hp5 (fun k h1 h2 => ?_) (fun k h1 => ?_) (fun t k h1 h2 h3 => ?_) (fun k h1 => ?_) (fun k h1 => ?_) old
      · rw [zcyo (by omega), zo (by omega), zo (by omega), zo (by omega)]; exact b1 k h1 h2
      · rw [zcyo (by omega), zo (by omega), zo (by omega), zo (by omega)]; exact b2 k h1
      · rw [zcyo (by omega), zo (by omega), zo (by omega), zo (by omega)]; exact b3 t k h1 h2 h3
      · rw [zcyo (by omega), zo (by omega), zo (by omega), zo (by omega)]; exact b4 k h1
      · rw [zcyi (by omega) (by omega) rfl rfl, zo (by omega), zo (by omega), zo (by omega), b5 _ _ _ (by omega)]
        rw [show 44 * (N - u) + (0 + k - 0) = 44 * (N - u) + k by omega]
    refine ⟨?_, n, B, nP, nW, zHs_cg ?_ ?_ r1, ⟨new, new.1.2.2⟩, zTx_cg ?_ ?_ ?_ ?_ ?_ ?_ r4, ⟨N - u, (X + 30 - u) % 30, ?_, ?_, by omega, ?_, by omega, fun k hk => ?_⟩, zIm_cg hp5 ?_ ?_ ?_ ?_ ?_ r6, zCh_cg ?_ ?_ r7, zSg_cg ?_ ?_ ?_ r8, zBk_cg ?_ ?_ ?_ r9⟩
    case refine_1 =>
      have h := new.1.1
      rw [Nat.zero_add] at h
      rw [h, zcyo (by omega)]
      repeat rw [zo (by omega)]
    case refine_10 => rw [zcyo (by omega), zo (by omega), zset_self]
    case refine_11 => rw [zcyo (by omega), zset_self]
    case refine_12 => rw [zcyo (by omega), zo (by omega), zo (by omega), zset_self]
    case refine_13 =>
      have := p6 k (by omega)
      rw [show ((X + 30 - u) % 30 + 30 - (N - u) + k) % 30 = (X + 30 - N + k) % 30 by omega]
      exact zLR_cg hp5 (fun t x z => fr _ _ _ (by omega) (by omega) (by omega) (by omega)) (fun x _ => fr _ _ _ (by omega) (by omega) (by omega) (by omega)) this
    all_goals intros; refine fr _ _ _ ?_ ?_ ?_ ?_ <;> omega
  · exact k_X12_undo 7 a μ _ (s_in _ _ _ _ _ _ (fun _ _ => ⟨fun _ => ⟨fun z => absurd (show a ≤ μ 9 0 5 from z) (by omega), fun _ => ⟨rfl, hR0⟩⟩, fun z => absurd (show (1 : Int) ≠ 0 by decide) z⟩) (fun q => absurd q (by omega)))
theorem z_k4 : ∀ s : Nat, s < 4 → ∀ i : Nat, i < 2 → ∀ j : Nat, j < 2 → (0 ≤ zon (s : Int) i ∧ zon (s : Int) i < 4) ∧ (zbit (zon (s : Int) i) j = true ↔ (zbit (s : Int) j = true ∨ i = j)) := by decide +kernel
theorem z_on4 {s : Int} (h : 0 ≤ s ∧ s < 4) {i j : Nat} (hi : i < 2) (hj : j < 2) : (0 ≤ zon s i ∧ zon s i < 4) ∧ (zbit (zon s i) j = true ↔ (zbit s j = true ∨ i = j)) := by
  obtain ⟨m, rfl⟩ := Int.eq_ofNat_of_zero_le h.1
  exact z_k4 m (by have := h.2; omega) i hi j hj
theorem q_keep (μ : zM) (hR : zRel μ) (a : Int) : zAsk m_X11_keep m_X12_keep [zI a] μ := by
  have hR0 := hR
  obtain ⟨n, B, nP, nW, r1, ⟨r2, r3⟩, r4, ⟨N, X, p1, p2, p3, p4, p5, p6⟩, ⟨k1, k2⟩, ⟨c1, c2, c3⟩, r8, r9⟩ := hR
  have hp5 := r1.2.2.2.2.2.2.2.1.2.2.1
  refine k_X11_keep 7 a μ _ (s_beyond _ a 1 μ _ (fun q1 q2 => ⟨fun _ => ?_, fun z => absurd rfl z⟩) (fun q => ⟨fun z => absurd z (by decide), fun _ => ?_⟩))
  · obtain ⟨i, rfl⟩ := Int.eq_ofNat_of_zero_le q1
    refine k_X2_store 6 i 0 _ μ _ ⟨fun q => absurd q (by omega), fun _ => ⟨fun q => absurd q (by omega), fun _ => ⟨⟨by omega, by omega⟩, ⟨by omega, by omega⟩, ?_⟩⟩⟩
    rw [Int.toNat_natCast]
    refine s_become 4 (32 + i) 0 (by omega) μ _ (fun μ1 hb => s_put_23 6 i (by omega) _ μ1 _ ?_)
    obtain ⟨b1, b2, b3, b4, b5⟩ := hb
    unfold zlv at b5
    rw [show (zset μ1 23 0 i (μ 1 0 8)) 6 0 2 = μ 6 0 2 by rw [zo (by omega)]; exact b5 _ _ _ (by omega), z_or12 ⟨k1.1, by omega⟩ (show i < 12 by omega)]
    refine k_X6_forget 7 _ _ (k_X12_keep 7 i _ _ (s_in _ _ _ _ _ _ (fun _ _ => ⟨fun _ => ?_, fun z => absurd (show (1 : Int) ≠ 0 by decide) z⟩) (fun q => absurd q (by omega))))
    rw [show w32 (45 * (i : Int)) = ((45 * i : Nat) : Int) by rw [z_fix (by omega) (by omega)]; omega]
    refine s_copies_34_36 7 0 0 (45 * i) 44 (by omega) (by omega) _ _ ?_
    rw [show w32 (((45 * i : Nat) : Int) + 44) = ((45 * i + 44 : Nat) : Int) by rw [z_fix (by omega) (by omega)]; omega, Int.toNat_natCast, Int.toNat_natCast]
    refine ⟨⟨by omega, by omega⟩, ⟨⟨by omega, by omega⟩, Or.inr rfl⟩, ?_⟩
    have e8 : zcpy (zset (zset (zset μ1 23 0 i (μ 1 0 8)) 6 0 2 (zon (μ 6 0 2) i)) 5 0 1 0) 34 0 0 36 0 (45 * i) 44 9 0 8 = μ 1 0 8 := by
      rw [zcyo (by omega), zo (by omega), zo (by omega), zo (by omega), b5 _ _ _ (by omega), c1]
    rw [e8, z_fix (show (-2147483648 : Int) ≤ μ 1 0 8 by omega) (by omega)]
    have fr : ∀ t j k, ¬ ((t = 4 ∨ 15 ≤ t ∧ t ≤ 19) ∧ j = 32 + i) → ¬ (t = 23 ∧ k = i) → ¬ (t = 6 ∧ k = 2) → ¬ (t = 5 ∧ k = 1) → ¬ (t = 36 ∧ 45 * i ≤ k ∧ k ≤ 45 * i + 44) → ¬ (t = 37 ∧ k = i) → ¬ (t = 9 ∧ k = 5) → (zset (zset (zset (zcpy (zset (zset (zset μ1 23 0 i (μ 1 0 8)) 6 0 2 (zon (μ 6 0 2) i)) 5 0 1 0) 34 0 0 36 0 (45 * i) 44) 36 0 (45 * i + 44) (μ 1 0 8)) 37 0 i 1) 9 0 5 0) t j k = μ t j k := by
      intro t j k h1 h2 h3 h4 h5 h6 h7
      rw [zo (by omega), zo (by omega), zo (by omega), zcyo (by omega), zo (by omega), zo (by omega), zo (by omega)]
      exact b5 t j k (by omega)
    have f6 : (zset (zset (zset (zcpy (zset (zset (zset μ1 23 0 i (μ 1 0 8)) 6 0 2 (zon (μ 6 0 2) i)) 5 0 1 0) 34 0 0 36 0 (45 * i) 44) 36 0 (45 * i + 44) (μ 1 0 8)) 37 0 i 1) 9 0 5 0) 6 0 2 = zon (μ 6 0 2) i := by
      rw [zo (by omega), zo (by omega), zo (by omega), zcyo (by omega), zo (by omega), zset_self]
    have f37 : (zset (zset (zset (zcpy (zset (zset (zset μ1 23 0 i (μ 1 0 8)) 6 0 2 (zon (μ 6 0 2) i)) 5 0 1 0) 34 0 0 36 0 (45 * i) 44) 36 0 (45 * i + 44) (μ 1 0 8)) 37 0 i 1) 9 0 5 0) 37 0 i = 1 := by
      rw [zo (by omega), zset_self]
    have f36 : (zset (zset (zset (zcpy (zset (zset (zset μ1 23 0 i (μ 1 0 8)) 6 0 2 (zon (μ 6 0 2) i)) 5 0 1 0) 34 0 0 36 0 (45 * i) 44) 36 0 (45 * i + 44) (μ 1 0 8)) 37 0 i 1) 9 0 5 0) 36 0 (45 * i + 44) = μ 1 0 8 := by
      rw [zo (by omega), zo (by omega), zset_self]
    have f23 : (zset (zset (zset (zcpy (zset (zset (zset μ1 23 0 i (μ 1 0 8)) 6 0 2 (zon (μ 6 0 2) i)) 5 0 1 0) 34 0 0 36 0 (45 * i) 44) 36 0 (45 * i + 44) (μ 1 0 8)) 37 0 i 1) 9 0 5 0) 23 0 i = μ 1 0 8 := by
      rw [zo (by omega), zo (by omega), zo (by omega), zcyo (by omega), zo (by omega), zo (by omega), zset_self]
    have new : zLR (zset (zset (zset (zcpy (zset (zset (zset μ1 23 0 i (μ 1 0 8)) 6 0 2 (zon (μ 6 0 2) i)) 5 0 1 0) 34 0 0 36 0 (45 * i) 44) 36 0 (45 * i + 44) (μ 1 0 8)) 37 0 i 1) 9 0 5 0) n B nP (32 + i) 36 0 (45 * i) := by
      refine zLR_mv hp5 (fun k h1 h2 => ?_) (fun k h1 => ?_) (fun t k h1 h2 h3 => ?_) (fun k h1 => ?_) (fun k h1 => ?_) r2
      · rw [zo (by omega), zo (by omega), zo (by omega), zcyo (by omega), zo (by omega), zo (by omega), zo (by omega)]; exact b1 k h1 h2
      · rw [zo (by omega), zo (by omega), zo (by omega), zcyo (by omega), zo (by omega), zo (by omega), zo (by omega)]; exact b2 k h1
      · rw [zo (by omega), zo (by omega), zo (by omega), zcyo (by omega), zo (by omega), zo (by omega), zo (by omega)]; exact b3 t k h1 h2 h3
      · rw [zo (by omega), zo (by omega), zo (by omega), zcyo (by omega), zo (by omega), zo (by omega), zo (by omega)]; exact b4 k h1
      · rw [zo (by omega), zo (by omega), zo (by omega), zcyi (by omega) (by omega) rfl rfl, zo (by omega), zo (by omega), zo (by omega), b5 _ _ _ (by omega), show 0 + (45 * i + k - 45 * i) = 0 + k by omega]
    have f5 : (zset (zset (zset (zcpy (zset (zset (zset μ1 23 0 i (μ 1 0 8)) 6 0 2 (zon (μ 6 0 2) i)) 5 0 1 0) 34 0 0 36 0 (45 * i) 44) 36 0 (45 * i + 44) (μ 1 0 8)) 37 0 i 1) 9 0 5 0) 5 0 1 = 0 := by
      rw [zo (by omega), zo (by omega), zo (by omega), zcyo (by omega), zset_self]
    have f9 : (zset (zset (zset (zcpy (zset (zset (zset μ1 23 0 i (μ 1 0 8)) 6 0 2 (zon (μ 6 0 2) i)) 5 0 1 0) 34 0 0 36 0 (45 * i) 44) 36 0 (45 * i + 44) (μ 1 0 8)) 37 0 i 1) 9 0 5 0) 9 0 5 = 0 := zset_self _ _ _ _ _
    generalize (zset (zset (zset (zcpy (zset (zset (zset μ1 23 0 i (μ 1 0 8)) 6 0 2 (zon (μ 6 0 2) i)) 5 0 1 0) 34 0 0 36 0 (45 * i) 44) 36 0 (45 * i + 44) (μ 1 0 8)) 37 0 i 1) 9 0 5 0) = ρ at fr f6 f37 f36 f23 new f5 f9 ⊢
    refine ⟨rfl, n, B, nP, nW, zHs_cg ?_ ?_ r1, ⟨zLR_cg hp5 ?_ ?_ r2, ?_⟩, zTx_cg ?_ ?_ ?_ ?_ ?_ ?_ r4, ⟨0, X, f5, f9, by omega, ?_, p5, fun k hk => absurd hk (by omega)⟩, ⟨?_, fun j hj => ?_⟩, ⟨?_, ?_⟩, zSg_cg ?_ ?_ ?_ r8, zBk_cg ?_ ?_ ?_ r9⟩
    case refine_5 => rw [fr _ _ _ (by omega) (by omega) (by omega) (by omega) (by omega) (by omega) (by omega)]; exact r3
    case refine_12 => rw [fr _ _ _ (by omega) (by omega) (by omega) (by omega) (by omega) (by omega) (by omega)]; exact p4
    case refine_13 => rw [f6]; exact (z_on4 k1 (show i < 2 by omega) (show i < 2 by omega)).1
    case refine_14 =>
      have hz := (z_on4 k1 (show i < 2 by omega) hj).2
      rw [f6]
      by_cases q : i = j
      · subst q
        have hb : zbit (zon (μ 6 0 2) i) i = true := hz.mpr (Or.inr rfl)
        rw [if_pos hb, f37, f36, f23]
        exact ⟨rfl, fun _ => ⟨new, rfl, c2, c3⟩⟩
      · obtain ⟨g1, g2⟩ := k2 j hj
        have hz2 : zbit (zon (μ 6 0 2) i) j = true ↔ zbit (μ 6 0 2) j = true := ⟨fun z => (hz.mp z).resolve_right q, fun z => hz.mpr (Or.inl z)⟩
        rw [fr _ _ _ (by omega) (by omega) (by omega) (by omega) (by omega) (by omega) (by omega), g1]
        refine ⟨?_, fun z => ?_⟩
        · by_cases q2 : zbit (μ 6 0 2) j = true
          · rw [if_pos q2, if_pos (hz2.mpr q2)]
          · rw [if_neg q2, if_neg (fun z => q2 (hz2.mp z))]
        · obtain ⟨g3, g4⟩ := g2 (hz2.mp z)
          rw [fr 36 _ _ (by omega) (by omega) (by omega) (by omega) (by omega) (by omega) (by omega), fr 23 _ _ (by omega) (by omega) (by omega) (by omega) (by omega) (by omega) (by omega)]
          exact ⟨zLR_cg hp5 (fun t x z => fr _ _ _ (by omega) (by omega) (by omega) (by omega) (by omega) (by omega) (by omega)) (fun x _ => fr _ _ _ (by omega) (by omega) (by omega) (by omega) (by omega) (by omega) (by omega)) g3, g4⟩
    case refine_15 => rw [fr _ _ _ (by omega) (by omega) (by omega) (by omega) (by omega) (by omega) (by omega), fr _ _ _ (by omega) (by omega) (by omega) (by omega) (by omega) (by omega) (by omega)]; exact c1
    case refine_16 => rw [fr _ _ _ (by omega) (by omega) (by omega) (by omega) (by omega) (by omega) (by omega)]; exact ⟨c2, c3⟩
    all_goals intros; refine fr _ _ _ ?_ ?_ ?_ ?_ ?_ ?_ ?_ <;> omega
  · exact k_X12_keep 7 a μ _ (s_in _ _ _ _ _ _ (fun _ _ => absurd q (by omega)) (fun _ => ⟨fun z => absurd rfl z, fun _ => ⟨rfl, hR0⟩⟩))
