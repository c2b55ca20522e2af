/-! HOUR, both sides: the call -/
theorem zhn_ok {n : Nat} {B : Nat → Nat} {nP nW D : Nat} (P U : Nat → Int) (W : Nat → Nat → Int) (hp5 : nP ≤ 5) (hw6 : nW ≤ 6) (hn6 : n ≤ 6) (hB : ∀ r, r < n → 1 ≤ B r ∧ B r ≤ 12) : ∀ (m : Nat) (s : zST × Nat) (N : Nat) (PS : Nat → zST × Nat), zOK n B nP s.1 s.2 → s.1 0 0 + m ≤ 90030 → zPO n B nP N PS → N ≤ 30 → zOK n B nP (zhn (zhrS P U B W n nP nW D) m s N PS).1.1 (zhn (zhrS P U B W n nP nW D) m s N PS).1.2 ∧ (zhn (zhrS P U B W n nP nW D) m s N PS).1.1 0 0 ≤ 90030 ∧ zPO n B nP (zhn (zhrS P U B W n nP nW D) m s N PS).2.1 (zhn (zhrS P U B W n nP nW D) m s N PS).2.2 ∧ (zhn (zhrS P U B W n nP nW D) m s N PS).2.1 ≤ 30
  | 0, s, N, PS, o, hb, hp, hN => ⟨o, by show s.1 0 0 ≤ 90030; omega, hp, hN⟩
  | m + 1, s, N, PS, o, hb, hp, hN => by
    have hk := zhrS_ok (nW := nW) (D := D) P U W hp5 hw6 hn6 hB o (by omega)
    rw [show (s.1, s.2) = s from rfl] at hk
    rw [zhn_s]
    exact zhn_ok P U W hp5 hw6 hn6 hB m _ _ _ hk.1 (by have := hk.2.1; omega) (zPO_add hp o (by omega)) (zup_le hN)
theorem q_hour (μ : zM) (hR : zRel μ) (a : Int) : zAsk m_X11_hour m_X12_hour [zI a] μ := by
  obtain ⟨n, B, nP, nW, S, M, N, X, PS, c, hO, hC, hM, hD⟩ := zRel_to hR
  have hp5 := zHO_5 hO
  have hHc := hO.1.1
  have u5 := hO.1.2.2.2.2.1
  have u6 := hO.1.2.2.2.2.2.1
  have hP1 := hO.1.2.2.2.2.2.2.2.1.1
  have hW1 := hO.1.2.2.2.2.2.2.2.2.2.1.1
  have hw6 := hO.1.2.2.2.2.2.2.2.2.2.1.2.2.1
  have eh : μ 4 0 1 = S 0 0 := hC.1.1
  have eh2 : μ 34 0 22 = S 0 0 := by have := hM.1.1; rw [Nat.zero_add] at this; exact this
  obtain ⟨D, hDe⟩ := Int.eq_ofNat_of_zero_le u6.2.1
  have hB : ∀ r, r < n → 1 ≤ B r ∧ B r ≤ 12 := fun r hr => ⟨(hHc.2.2.1 r hr).2.1, (hHc.2.2.1 r hr).2.2⟩
  refine k_X11_hour 7 a μ _ (k_X11_refusalOfHours 7 a μ _ ⟨fun q => ⟨fun z => absurd z (by decide), fun _ => ?_⟩, fun q1 => ⟨fun q2 => ⟨fun q3 => ⟨fun q4 => ⟨fun _ => ?_, fun z => absurd rfl z⟩, fun q4 => ⟨fun z => absurd z (by decide), fun _ => ?_⟩⟩, fun q3 => ⟨fun z => absurd z (by decide), fun _ => ?_⟩⟩, fun q => ⟨fun z => absurd z (by decide), fun _ => ?_⟩⟩⟩)
  · exact k_X12_hour 7 a μ _ (k_X12_refuses 6 a μ _ (s_in _ _ _ _ _ _ (fun _ _ => absurd q (by omega)) (fun _ => ⟨fun z => absurd rfl z, fun _ => ⟨fun z => absurd z (by decide), fun _ => ⟨rfl, hR⟩⟩⟩)))
  · obtain ⟨a, rfl⟩ := Int.eq_ofNat_of_zero_le (show 0 ≤ a by omega)
    rw [eh] at q4
    have hk := zhn_ok (nW := nW) (D := D) (μ 11 0) (μ 12 0) (fun w c => μ 14 0 (4 * w + c)) hp5 hw6 hHc.2.1 hB a (S, M) N PS hD.1 (by show S 0 0 + (a : Int) ≤ 90030; omega) hD.2.1 hC.2.1.2.2.2.1
    generalize hr : zhn (zhrS (μ 11 0) (μ 12 0) B (fun w c => μ 14 0 (4 * w + c)) n nP nW D) a (S, M) N PS = r at hk
    refine s_chours a n nP nW D hp5 hw6 (by omega) (by omega) μ hHc hP1 hW1 hDe r _ (fun μ2 X2 f2 c2 => ?_) a 0 (by omega) μ (S, M) N X PS (zfC_r μ) hC hD.1 (by show S 0 0 + (a : Int) ≤ 90030; omega) hr
    have hO2 := zHO_C f2 hO
    have hM2 := zMS_C hp5 f2 hM
    have g : ∀ t k, t = 3 ∨ 10 ≤ t ∧ t ≤ 14 → μ2 t 0 k = μ t 0 k := fun t k z => f2 _ _ _ (by unfold zlv; omega) (by omega) (by omega) (by unfold zsc; omega)
    have q11 : μ2 11 0 = μ 11 0 := funext fun k => g _ _ (by omega)
    have q12 : μ2 12 0 = μ 12 0 := funext fun k => g _ _ (by omega)
    have q14 : (fun w c => μ2 14 0 (4 * w + c)) = (fun w c => μ 14 0 (4 * w + c)) := by funext a b; exact g _ _ (by omega)
    refine k_X12_hour 7 a μ2 _ (k_X12_refuses 6 a μ2 _ (s_in _ _ _ _ _ _ (fun _ _ => ⟨fun _ => ⟨by omega, fun _ => ⟨by omega, fun _ => ⟨fun _ => ?_, fun z => absurd rfl z⟩, fun z => absurd ?_ z⟩, fun z => absurd ?_ z⟩, fun z => absurd (show (1 : Int) ≠ 0 by decide) z⟩) (fun q => absurd q (by omega))))
    · refine s_mhours a n nP nW D hp5 hw6 (by omega) (by omega) μ2 hO2.1 (by rw [g _ _ (by omega)]; exact hDe) r _ (fun μ3 f3 m3 => ⟨rfl, zRel_of (zHO_M f3 hO2) (zCS_M hp5 f3 c2) m3 ⟨hk.1, hk.2.2.1, hk.2.1, hD.2.2.2⟩⟩) a 0 (by omega) μ2 (S, M) N PS (zfM_r μ2) hC.2.1.2.2.2.1 hM2 hD.1 (by show S 0 0 + (a : Int) ≤ 90030; omega) ?_
      rw [q11, q12, q14]; exact hr
    · have := hM2.1.1; rw [Nat.zero_add] at this; rw [this]; exact q4
    · rw [hO2.1.2.2.2.2.1.1, g _ _ (by omega)]; exact q3
  · exact k_X12_hour 7 a μ _ (k_X12_refuses 6 a μ _ (s_in _ _ _ _ _ _ (fun _ _ => ⟨fun _ => ⟨by omega, fun _ => ⟨by omega, fun z => absurd (by rw [eh, ← eh2]; exact z) q4, fun _ => ⟨fun z => absurd z (by decide), fun _ => ⟨rfl, hR⟩⟩⟩, fun z => absurd (by rw [u5.1]; exact q3) z⟩, fun z => absurd (show (1 : Int) ≠ 0 by decide) z⟩) (fun q => absurd q (by omega))))
  · exact k_X12_hour 7 a μ _ (k_X12_refuses 6 a μ _ (s_in _ _ _ _ _ _ (fun _ _ => ⟨fun _ => ⟨by omega, fun z => absurd (by rw [← u5.1]; exact z) q3, fun _ => ⟨fun z => absurd z (by decide), fun _ => ⟨rfl, hR⟩⟩⟩, fun z => absurd (show (1 : Int) ≠ 0 by decide) z⟩) (fun q => absurd q (by omega))))
  · exact k_X12_hour 7 a μ _ (k_X12_refuses 6 a μ _ (s_in _ _ _ _ _ _ (fun _ _ => absurd q (by omega)) (fun _ => ⟨fun z => absurd rfl z, fun _ => ⟨fun z => absurd z (by decide), fun _ => ⟨rfl, hR⟩⟩⟩)))
