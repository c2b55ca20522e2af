/-! WHERE, MEETS, both sides: the calls -/
theorem q_where (μ : zM) (hR : zRel μ) (a b : Int) : zAsk m_X11_where m_X12_where [zI a, zI b] μ := by
  have hR0 := hR
  obtain ⟨n, B, nP, nW, S, M, N, X, PS, c, hO, hC, hM, hD⟩ := zRel_to hR
  have hp5 := zHO_5 hO
  have hHc := hO.1.1
  have u6 := hO.1.2.2.2.2.2.1
  have hP1 := hO.1.2.2.2.2.2.2.2.1.1
  have hPm := hO.1.2.2.2.2.2.2.2.1.2.1
  have hW1 := hO.1.2.2.2.2.2.2.2.2.2.1.1
  have hw6 := hO.1.2.2.2.2.2.2.2.2.2.1.2.2.1
  have hD3 := hD.2.2.1
  obtain ⟨D, hDe⟩ := Int.eq_ofNat_of_zero_le u6.2.1
  refine k_X11_where 7 a b μ _ (s_hasPerson _ 0 a μ _ (fun q1 q2 => ⟨fun _ => s_beyond _ b 99 μ _ (fun q3 q4 => ⟨fun _ => ?_, fun z => absurd rfl z⟩) (fun q => ⟨fun z => absurd z (by decide), fun _ => ?_⟩), fun z => absurd (show (1 : Int) ≠ 0 by decide) z⟩) (fun q => ⟨fun z => absurd rfl z, fun _ => ?_⟩))
  · rw [hP1] at q2
    obtain ⟨p, rfl⟩ := Int.eq_ofNat_of_zero_le q1
    obtain ⟨b, rfl⟩ := Int.eq_ofNat_of_zero_le q3
    have hp : p < nP := by omega
    refine s_ctried b n nP nW D (by omega) hp5 hw6 (by omega) μ hHc hP1 hW1 hDe hD.1 hD3 hC.1 _ (fun μ1 hl1 hf1 => ?_)
    generalize hr : zitF (zhrS (μ 11 0) (μ 12 0) B (fun w c => μ 14 0 (4 * w + c)) n nP nW D) b (S, M) = r at hl1 ⊢
    refine s_placeOf 6 1 p (by omega) μ1 _ ?_
    rw [(hl1.2.2.2.2.1 p hp).2.1]
    have kp : zkp μ μ1 := fun t i k q => hf1 t i k (fun z => q (by unfold zlv at z; unfold zsc; omega))
    have hO1 : zHs μ1 n B nP nW := zkp_hs kp hO.1
    have hl34 : zLN μ1 nP 34 0 0 S M := zLN_cg hp5 (fun k _ => kp _ _ _ (by unfold zsc; omega)) hM.1
    have g : ∀ t k, t = 3 ∨ 10 ≤ t ∧ t ≤ 14 → μ1 t 0 k = μ t 0 k := fun t k z => kp _ _ _ (by unfold zsc; omega)
    have q11 : μ1 11 0 = μ 11 0 := funext fun k => g _ _ (by omega)
    have q12 : μ1 12 0 = μ 12 0 := funext fun k => g _ _ (by omega)
    have q14 : (fun w c => μ1 14 0 (4 * w + c)) = (fun w c => μ 14 0 (4 * w + c)) := by funext a b; exact g _ _ (by omega)
    refine k_X12_where 7 p b μ1 _ (s_isPerson 6 p μ1 hO1.2.2.2.2.2.2.2.1.2.1 hp5 _ (fun p' h1 h2 => ⟨fun _ => s_in _ _ _ _ _ _ (fun _ _ => ⟨fun _ => s_layAside 6 μ1 hp5 hl34 _ (fun μ2 hl2 hf2 => ?_), fun z => absurd (show (1 : Int) ≠ 0 by decide) z⟩) (fun q => absurd q (by omega)), fun z => absurd (show (1 : Int) ≠ 0 by decide) z⟩) (fun q => absurd q (by omega)))
    refine s_mtryW b p n nP nW D hp hp5 hw6 (by omega) (by omega) μ1 hO1 (by rw [g _ _ (by omega)]; exact hDe) r _ (fun μ3 hf3 => ⟨rfl, ?_⟩) b 0 (by omega) μ2 (S, M) hl2 (fun t i k z1 _ => hf2 t i k z1) hD.1 (by show S 0 0 + (b : Int) ≤ 91000; omega) ?_
    · rw [q11, q12, q14]; exact hr
    · exact zkp_rel (zkp_t kp (fun t i k q => hf3 t i k (fun z => q (by unfold zsc; omega)) (fun z => q (by unfold zsc; omega)))) hR0
  · exact k_X12_where 7 a b μ _ (s_isPerson 6 a μ hPm hp5 _ (fun p h1 h2 => ⟨fun _ => s_in _ _ _ _ _ _ (fun _ _ => absurd q (by omega)) (fun _ => ⟨fun z => absurd rfl z, fun _ => ⟨rfl, hR0⟩⟩), fun z => absurd (show (1 : Int) ≠ 0 by decide) z⟩) (fun q => absurd q (by omega)))
  · exact k_X12_where 7 a b μ _ (s_isPerson 6 a μ hPm hp5 _ (fun p h1 h2 => absurd q (by omega)) (fun _ => ⟨fun z => absurd rfl z, fun _ => ⟨rfl, hR0⟩⟩))
theorem q_meets (μ : zM) (hR : zRel μ) (a : Int) : zAsk m_X11_meets m_X12_meets [zI a] μ := by
  have hR0 := hR
  obtain ⟨n, B, nP, nW, S, M, N, X, PS, c, hO, hC, hM, hD⟩ := zRel_to hR
  have hp5 := zHO_5 hO
  have hHc := hO.1.1
  have u6 := hO.1.2.2.2.2.2.1
  have hP1 := hO.1.2.2.2.2.2.2.2.1.1
  have hPm := hO.1.2.2.2.2.2.2.2.1.2.1
  have hW1 := hO.1.2.2.2.2.2.2.2.2.2.1.1
  have hw6 := hO.1.2.2.2.2.2.2.2.2.2.1.2.2.1
  have hD3 := hD.2.2.1
  have hM5 : M ≤ 15000000 := by have := hD.1.2.2.1; omega
  obtain ⟨D, hDe⟩ := Int.eq_ofNat_of_zero_le u6.2.1
  refine k_X11_meets 7 a μ _ (s_beyond _ a 99 μ _ (fun q3 q4 => ⟨fun _ => ?_, fun z => absurd rfl z⟩) (fun q => ⟨fun z => absurd z (by decide), fun _ => ?_⟩))
  · obtain ⟨b, rfl⟩ := Int.eq_ofNat_of_zero_le q3
    refine s_ctried b n nP nW D (by omega) hp5 hw6 (by omega) μ hHc hP1 hW1 hDe hD.1 hD3 hC.1 _ (fun μ1 hl1 hf1 => ?_)
    generalize hr : zitF (zhrS (μ 11 0) (μ 12 0) B (fun w c => μ 14 0 (4 * w + c)) n nP nW D) b (S, M) = r at hl1 ⊢
    have kp : zkp μ μ1 := fun t i k q => hf1 t i k (fun z => q (by unfold zlv at z; unfold zsc; omega))
    have hO1 : zHs μ1 n B nP nW := zkp_hs kp hO.1
    have hl34 : zLN μ1 nP 34 0 0 S M := zLN_cg hp5 (fun k _ => kp _ _ _ (by unfold zsc; omega)) hM.1
    have g : ∀ t k, t = 3 ∨ 10 ≤ t ∧ t ≤ 14 → μ1 t 0 k = μ t 0 k := fun t k z => kp _ _ _ (by unfold zsc; omega)
    have q11 : μ1 11 0 = μ 11 0 := funext fun k => g _ _ (by omega)
    have q12 : μ1 12 0 = μ 12 0 := funext fun k => g _ _ (by omega)
    have q14 : (fun w c => μ1 14 0 (4 * w + c)) = (fun w c => μ 14 0 (4 * w + c)) := by funext a b; exact g _ _ (by omega)
    refine k_X12_meets 7 b μ1 _ (s_in _ _ _ _ _ _ (fun _ _ => ⟨fun _ => s_layAside 6 μ1 hp5 hl34 _ (fun μ2 hl2 hf2 => ?_), fun z => absurd (show (1 : Int) ≠ 0 by decide) z⟩) (fun q => absurd q (by omega)))
    have h0 := s_mtryM b n nP nW D M hp5 hw6 (by omega) (by omega) hM5 μ1 hO1 (by rw [g _ _ (by omega)]; exact hDe) r (fun y μ3 => ((r.2 - M : Nat) : Int) = y ∧ zRel μ3) (fun μ3 hf3 => ⟨rfl, zkp_rel (zkp_t kp (fun t i k q => hf3 t i k (fun z => q (by unfold zsc; omega)) (fun z => q (by unfold zsc; omega)))) hR0⟩) b 0 (by omega) μ2 (S, M) hl2 (fun t i k z1 _ => hf2 t i k z1) hD.1 (by show S 0 0 + (b : Int) ≤ 91000; omega) (Nat.le_refl _) (by show M ≤ M + 150 * 0; omega) (by rw [q11, q12, q14]; exact hr)
    rw [show ((((S, M) : zST × Nat).2 - M : Nat) : Int) = 0 by show ((M - M : Nat) : Int) = 0; omega] at h0
    exact h0
  · exact k_X12_meets 7 a μ _ (s_in _ _ _ _ _ _ (fun _ _ => absurd q (by omega)) (fun _ => ⟨fun z => absurd rfl z, fun _ => ⟨rfl, hR0⟩⟩))
