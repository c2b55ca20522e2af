/-! LIFT, PASTE, PACE, both sides -/
theorem zDO_k {n : Nat} {B : Nat → Nat} {nP : Nat} {S S' : zST} {M N : Nat} {PS : Nat → zST × Nat} {c : Int} (h : zDO n B nP S M N PS c) (o : zOK n B nP S' M) (e : S' 0 0 = S 0 0) : zDO n B nP S' M (zup N) (zpu N PS S M) c := ⟨o, zPO_add h.2.1 h.1 h.2.2.1, by rw [e]; exact h.2.2.1, h.2.2.2⟩
theorem zzr_eq {μ μ' : zM} {P : zM → zM → Prop} (hp : P μ μ') (g : ∀ t k, t = 11 ∨ t = 12 → μ' t 0 k = μ t 0 k) (S : zST) : zrS (μ' 11 0) (μ' 12 0) S = zrS (μ 11 0) (μ 12 0) S := by
  rw [show μ' 11 0 = μ 11 0 from funext fun k => g 11 k (by omega), show μ' 12 0 = μ 12 0 from funext fun k => g 12 k (by omega)]
theorem zfM_r2 {μ μ' : zM} (f : zfM μ μ') (S : zST) : zrS (μ' 11 0) (μ' 12 0) S = zrS (μ 11 0) (μ 12 0) S := zzr_eq f (fun t k q => f _ _ _ (by omega) (by omega) (by omega) (by unfold zsc; omega)) S
theorem zfC_r2 {μ μ' : zM} (f : zfC μ μ') (S : zST) : zrS (μ' 11 0) (μ' 12 0) S = zrS (μ 11 0) (μ 12 0) S := zzr_eq f (fun t k q => f _ _ _ (by unfold zlv; omega) (by omega) (by omega) (by unfold zsc; omega)) S
theorem z_flip_on {s : Int} {k : Nat} (h : ¬ zbit s k = true) : zflip s k = zon s k := by unfold zflip zon; rw [if_neg h, if_neg h]
theorem z_flip_off {s : Int} {k : Nat} (h : zbit s k = true) : zflip s k = zoff s k := by unfold zflip zoff; rw [if_pos h, if_pos h]
theorem q_lift (μ : zM) (hR : zRel μ) (a b : Int) : zAsk m_X11_lift m_X12_lift [zI a, zI b] μ := by
  obtain ⟨n, B, nP, nW, S, M, N, X, PS, c, hO, hC, hM, hD⟩ := zRel_to hR
  have hp5 := zHO_5 hO
  have hHc := hO.1.1
  have hHm := hO.1.2.1
  have hn := hHc.2.1
  have hLc := zLC_lc hD.1 hC.1
  have hLm := zLN_lm hD.1 hM.1
  refine k_X11_lift 7 a b μ _ (k_X11_turnByHand 6 a b 0 μ _ (s_hasBar 4 a b μ hHc _ (fun r k hr hk hrn hkn => ?_) (fun q => ?_)))
  · subst hr; subst hk
    have hB := (hHc.2.2.1 r hrn).2.2
    have eS : μ 15 0 r = S 3 r := hC.1.2.2.2.1 r (by omega)
    have eN : μ 34 0 r = S 3 r := by have := hM.1.2.2.2.1 r (by omega); rw [Nat.zero_add] at this; exact this
    have h12 : zset12 (S 3 r) := (hD.1.2.2.2.2.1 r (by omega)).1
    refine ⟨fun _ => s_isLifted 5 0 r k (by omega) (by omega) μ hLc _ ?_, fun z => absurd (show (1 : Int) ≠ 0 by decide) z⟩
    rw [eS]
    by_cases q : zbit (S 3 r) k = true
    · rw [if_pos q]
      refine ⟨fun z => absurd z (by decide), fun _ => ?_⟩
      refine k_X12_lift 7 r k μ _ (s_isBar 5 r k μ hHm _ (fun _ _ _ _ _ _ => ⟨fun _ => ?_, fun z => absurd (show (1 : Int) ≠ 0 by decide) z⟩) (fun z => absurd ⟨r, k, rfl, rfl, hrn, hkn⟩ z))
      rw [z_i (c := 0) (m := r) (by omega) (by omega), Int.toNat_natCast, eN]
      refine ⟨⟨by omega, by omega⟩, s_has _ _ (zset12_in h12) k (by omega) μ _ ?_⟩
      rw [if_pos q]
      exact ⟨fun z => absurd z (by decide), fun _ => ⟨rfl, hR⟩⟩
    · rw [if_neg q]
      refine ⟨fun _ => s_cadd 3 μ hp5 hC _ (fun μ1 c1 f1 => ?_), fun z => absurd rfl z⟩
      have eS1 : μ1 15 0 r = S 3 r := c1.1.2.2.2.1 r (by omega)
      refine s_turn 4 0 r k (by omega) (by omega) μ1 (by rw [eS1]; exact h12) _ ?_
      rw [eS1, z_flip_on q]
      have c2 := zCS_u hp5 c1 15 3 r (zon (S 3 r) k) (by omega) (by omega) rfl
      have f2 := zfC_u f1 15 r (zon (S 3 r) k) (by omega) (by omega)
      have o2 := zOK_3 hD.1 hrn (z_on12 h12 (show k < 12 by omega))
      have hO2 := zHO_C f2 hO
      have hM2 := zMS_C hp5 f2 hM
      generalize hν : zset μ1 15 0 r (zon (S 3 r) k) = ν at c2 f2 hO2 hM2 ⊢
      refine s_reads 4 0 r k (by omega) (by omega) ν (zLC_lc o2 c2.1) _ ?_
      rw [rC_S c2.1]
      refine k_X12_lift 7 r k ν _ (s_isBar 5 r k ν hO2.1.2.1 _ (fun _ _ _ _ _ _ => ⟨fun _ => ?_, fun z => absurd (show (1 : Int) ≠ 0 by decide) z⟩) (fun z => absurd ⟨r, k, rfl, rfl, hrn, hkn⟩ z))
      have eN2 : ν 34 0 r = S 3 r := by have := hM2.1.2.2.2.1 r (by omega); rw [Nat.zero_add] at this; exact this
      rw [z_i (c := 0) (m := r) (by omega) (by omega), Int.toNat_natCast, eN2]
      refine ⟨⟨by omega, by omega⟩, s_has _ _ (zset12_in h12) k (by omega) ν _ ?_⟩
      rw [if_neg q]
      refine ⟨fun _ => s_mrem 6 ν hp5 hC.2.1.2.2.2.1 hM2 _ (fun μ3 m3 f3 => ?_), fun z => absurd rfl z⟩
      have eN3 : μ3 34 0 r = S 3 r := by have := m3.1.2.2.2.1 r (by omega); rw [Nat.zero_add] at this; exact this
      rw [eN3, z_or12 h12 (show k < 12 by omega)]
      refine ⟨⟨by omega, by omega⟩, ⟨by omega, by omega⟩, ?_⟩
      have m4 := zMS_u hp5 m3 3 r (zon (S 3 r) k) (by omega) (by omega) (by rw [if_pos rfl]; omega)
      rw [show zcell 3 + r = r by show 0 + r = r; omega] at m4
      have f4 := zfM_u f3 r (zon (S 3 r) k)
      have hO4 := zHO_M f4 hO2
      have c4 := zCS_M hp5 f4 c2
      generalize zset μ3 34 0 r (zon (S 3 r) k) = ρ at m4 f4 hO4 c4 ⊢
      refine s_mreads 5 r k (by omega) (by omega) ρ (zLN_lm o2 m4.1) _ ⟨?_, zRel_of hO4 c4 m4 (zDO_k hD o2 (zuS_o (by omega)))⟩
      rw [rM_S hO4.1 m4.1, zfM_r2 f4]
  · refine ⟨fun z => absurd rfl z, fun _ => ?_⟩
    exact k_X12_lift 7 a b μ _ (s_isBar 5 a b μ hHm _ (fun r c h1 h2 h3 h4 => absurd ⟨r, c, h1, h2, h3, h4⟩ q) (fun _ => ⟨fun z => absurd rfl z, fun _ => ⟨rfl, hR⟩⟩))
theorem q_paste (μ : zM) (hR : zRel μ) (a b : Int) : zAsk m_X11_paste m_X12_paste [zI a, zI b] μ := by
  obtain ⟨n, B, nP, nW, S, M, N, X, PS, c, hO, hC, hM, hD⟩ := zRel_to hR
  have hp5 := zHO_5 hO
  have hHc := hO.1.1
  have hHm := hO.1.2.1
  have hn := hHc.2.1
  have hLc := zLC_lc hD.1 hC.1
  have hLm := zLN_lm hD.1 hM.1
  refine k_X11_paste 7 a b μ _ (k_X11_turnByHand 6 a b 1 μ _ (s_hasBar 4 a b μ hHc _ (fun r k hr hk hrn hkn => ?_) (fun q => ?_)))
  · subst hr; subst hk
    have hB := (hHc.2.2.1 r hrn).2.2
    have eS : μ 15 0 r = S 3 r := hC.1.2.2.2.1 r (by omega)
    have eN : μ 34 0 r = S 3 r := by have := hM.1.2.2.2.1 r (by omega); rw [Nat.zero_add] at this; exact this
    have h12 : zset12 (S 3 r) := (hD.1.2.2.2.2.1 r (by omega)).1
    refine ⟨fun _ => s_isLifted 5 0 r k (by omega) (by omega) μ hLc _ ?_, fun z => absurd (show (1 : Int) ≠ 0 by decide) z⟩
    rw [eS]
    by_cases q : zbit (S 3 r) k = true
    · rw [if_pos q]
      refine ⟨fun _ => s_cadd 3 μ hp5 hC _ (fun μ1 c1 f1 => ?_), fun z => absurd rfl z⟩
      have eS1 : μ1 15 0 r = S 3 r := c1.1.2.2.2.1 r (by omega)
      refine s_turn 4 0 r k (by omega) (by omega) μ1 (by rw [eS1]; exact h12) _ ?_
      rw [eS1, z_flip_off q]
      have v12 : zset12 (zoff (S 3 r) k) := by rw [← z_flip_off q]; exact z_flip12 h12 (by omega)
      have c2 := zCS_u hp5 c1 15 3 r (zoff (S 3 r) k) (by omega) (by omega) rfl
      have f2 := zfC_u f1 15 r (zoff (S 3 r) k) (by omega) (by omega)
      have o2 := zOK_3 hD.1 hrn v12
      have hO2 := zHO_C f2 hO
      have hM2 := zMS_C hp5 f2 hM
      generalize hν : zset μ1 15 0 r (zoff (S 3 r) k) = ν at c2 f2 hO2 hM2 ⊢
      refine s_reads 4 0 r k (by omega) (by omega) ν (zLC_lc o2 c2.1) _ ?_
      rw [rC_S c2.1]
      refine k_X12_paste 7 r k ν _ (s_isBar 5 r k ν hO2.1.2.1 _ (fun _ _ _ _ _ _ => ⟨fun _ => ?_, fun z => absurd (show (1 : Int) ≠ 0 by decide) z⟩) (fun z => absurd ⟨r, k, rfl, rfl, hrn, hkn⟩ z))
      have eN2 : ν 34 0 r = S 3 r := by have := hM2.1.2.2.2.1 r (by omega); rw [Nat.zero_add] at this; exact this
      rw [z_i (c := 0) (m := r) (by omega) (by omega), Int.toNat_natCast, eN2]
      refine ⟨⟨by omega, by omega⟩, s_has _ _ (zset12_in h12) k (by omega) ν _ ?_⟩
      rw [if_pos q]
      refine ⟨fun _ => s_mrem 6 ν hp5 hC.2.1.2.2.2.1 hM2 _ (fun μ3 m3 f3 => ?_), fun z => absurd (show (1 : Int) ≠ 0 by decide) z⟩
      have eN3 : μ3 34 0 r = S 3 r := by have := m3.1.2.2.2.1 r (by omega); rw [Nat.zero_add] at this; exact this
      rw [eN3, z_off12 h12 (show k < 12 by omega)]
      refine ⟨⟨by omega, by omega⟩, ⟨by omega, by omega⟩, ?_⟩
      have m4 := zMS_u hp5 m3 3 r (zoff (S 3 r) k) (by omega) (by omega) (by rw [if_pos rfl]; omega)
      rw [show zcell 3 + r = r by show 0 + r = r; omega] at m4
      have f4 := zfM_u f3 r (zoff (S 3 r) k)
      have hO4 := zHO_M f4 hO2
      have c4 := zCS_M hp5 f4 c2
      generalize zset μ3 34 0 r (zoff (S 3 r) k) = ρ at m4 f4 hO4 c4 ⊢
      refine s_mreads 5 r k (by omega) (by omega) ρ (zLN_lm o2 m4.1) _ ⟨?_, zRel_of hO4 c4 m4 (zDO_k hD o2 (zuS_o (by omega)))⟩
      rw [rM_S hO4.1 m4.1, zfM_r2 f4]
    · rw [if_neg q]
      refine ⟨fun z => absurd z (by decide), fun _ => ?_⟩
      refine k_X12_paste 7 r k μ _ (s_isBar 5 r k μ hHm _ (fun _ _ _ _ _ _ => ⟨fun _ => ?_, fun z => absurd (show (1 : Int) ≠ 0 by decide) z⟩) (fun z => absurd ⟨r, k, rfl, rfl, hrn, hkn⟩ z))
      rw [z_i (c := 0) (m := r) (by omega) (by omega), Int.toNat_natCast, eN]
      refine ⟨⟨by omega, by omega⟩, s_has _ _ (zset12_in h12) k (by omega) μ _ ?_⟩
      rw [if_neg q]
      exact ⟨fun z => absurd rfl z, fun _ => ⟨rfl, hR⟩⟩
  · refine ⟨fun z => absurd rfl z, fun _ => ?_⟩
    exact k_X12_paste 7 a b μ _ (s_isBar 5 a b μ hHm _ (fun r c h1 h2 h3 h4 => absurd ⟨r, c, h1, h2, h3, h4⟩ q) (fun _ => ⟨fun z => absurd rfl z, fun _ => ⟨rfl, hR⟩⟩))
theorem q_pace (μ : zM) (hR : zRel μ) (a b : Int) : zAsk m_X11_pace m_X12_pace [zI a, zI b] μ := by
  obtain ⟨n, B, nP, nW, S, M, N, X, PS, c, hO, hC, hM, hD⟩ := zRel_to hR
  have hp5 := zHO_5 hO
  have hP1 := hO.1.2.2.2.2.2.2.2.1.1
  have hP2 := hO.1.2.2.2.2.2.2.2.1.2.1
  refine k_X11_pace 7 a b μ _ (s_hasPerson _ 0 a μ _ (fun q1 q2 => ?_) (fun q => ?_))
  · rw [hP1] at q2
    obtain ⟨p, rfl⟩ := Int.eq_ofNat_of_zero_le q1
    have hp : p < nP := by omega
    refine ⟨fun _ => s_beyond _ b 9 μ _ (fun q3 q4 => ⟨fun _ => s_paceOf 6 0 p (by omega) μ _ ?_, fun z => absurd rfl z⟩) (fun q => ⟨fun z => absurd z (by decide), fun _ => ?_⟩), fun z => absurd (show (1 : Int) ≠ 0 by decide) z⟩
    · have eS : μ 18 0 p = S 6 p := (hC.1.2.2.2.2.1 p hp).2.2
      rw [eS]
      refine s_cadd 4 μ hp5 hC _ (fun μ1 c1 f1 => k_X3_setPace 6 0 p b μ1 _ (s_put_18 6 0 p (by omega) b μ1 _ ?_))
      have c2 := zCS_u hp5 c1 18 6 p b (by omega) (by omega) rfl
      have f2 := zfC_u f1 18 p b (by omega) (by omega)
      have o2 := zOK_6 hD.1 (p := p) ⟨q3, q4⟩
      have hO2 := zHO_C f2 hO
      have hM2 := zMS_C hp5 f2 hM
      generalize zset μ1 18 0 p b = ν at c2 f2 hO2 hM2 ⊢
      refine k_X12_pace 7 p b ν _ (s_isPerson 6 p ν hO2.1.2.2.2.2.2.2.2.1.2.1 hp5 _ (fun _ _ _ => ⟨fun _ => s_in _ _ _ _ _ _ (fun _ _ => ⟨fun _ => s_mrem 6 ν hp5 hC.2.1.2.2.2.1 hM2 _ (fun μ3 m3 f3 => ?_), fun z => absurd (show (1 : Int) ≠ 0 by decide) z⟩) (fun q => absurd q (by omega)), fun z => absurd (show (1 : Int) ≠ 0 by decide) z⟩) (fun q => absurd q (by omega)))
      have eN3 : μ3 34 0 (16 + p) = S 6 p := by have := (m3.1.2.2.2.2.1 p hp).2.2; rw [Nat.zero_add] at this; exact this
      rw [z_i (c := 16) (m := 16 + p) (by omega) (by omega), Int.toNat_natCast, eN3]
      have m4 := zMS_u hp5 m3 6 p b (by omega) (by omega) (by rw [if_neg (by omega)]; omega)
      rw [show zcell 6 + p = 16 + p from rfl] at m4
      have f4 := zfM_u f3 (16 + p) b
      exact ⟨⟨by omega, by omega⟩, ⟨by omega, by omega⟩, rfl, zRel_of (zHO_M f4 hO2) (zCS_M hp5 f4 c2) m4 (zDO_k hD o2 (zuS_o (by omega)))⟩
    · exact k_X12_pace 7 p b μ _ (s_isPerson 6 p μ hP2 hp5 _ (fun _ _ _ => ⟨fun _ => s_in _ _ _ _ _ _ (fun _ _ => absurd q (by omega)) (fun _ => ⟨fun z => absurd rfl z, fun _ => ⟨rfl, hR⟩⟩), fun z => absurd (show (1 : Int) ≠ 0 by decide) z⟩) (fun q => absurd q (by omega)))
  · rw [hP1] at q
    refine ⟨fun z => absurd rfl z, fun _ => ?_⟩
    exact k_X12_pace 7 a b μ _ (s_isPerson 6 a μ hP2 hp5 _ (fun _ _ _ => absurd q (by omega)) (fun _ => ⟨fun z => absurd rfl z, fun _ => ⟨rfl, hR⟩⟩))
