/-! DRIFT, both sides -/
def zdn (F : zST × Nat → zST × Nat) (E : zST → Int → zST × Int) : Nat → zST × Nat → Nat → (Nat → zST × Nat) → Int → (zST × Nat) × Nat × (Nat → zST × Nat) × Int
  | 0, s, N, PS, c => (s, N, PS, c)
  | m + 1, s, N, PS, c => zdn F E m (F ((E s.1 c).1, s.2)) (zup N) (zpu N PS s.1 s.2) (E s.1 c).2
theorem zdn_s (F : zST × Nat → zST × Nat) (E : zST → Int → zST × Int) (m : Nat) (s : zST × Nat) (N : Nat) (PS : Nat → zST × Nat) (c : Int) : zdn F E (m + 1) s N PS c = zdn F E m (F ((E s.1 c).1, s.2)) (zup N) (zpu N PS s.1 s.2) (E s.1 c).2 := rfl
theorem zdn_ok {n : Nat} {B : Nat → Nat} {nP nW D : Nat} (P U : Nat → Int) (W : Nat → Nat → Int) (hp5 : nP ≤ 5) (hw6 : nW ≤ 6) (hn6 : n ≤ 6) (hB : ∀ r, r < n → 1 ≤ B r ∧ B r ≤ 12) : ∀ (m : Nat) (s : zST × Nat) (N : Nat) (PS : Nat → zST × Nat) (c : Int), zOK n B nP s.1 s.2 → s.1 0 0 + m ≤ 90030 → zPO n B nP N PS → N ≤ 30 → 0 ≤ c → c < 2147483648 → ∀ r, zdn (zhrS P U B W n nP nW D) (zdd B n nP) m s N PS c = r → zOK n B nP r.1.1 r.1.2 ∧ r.1.1 0 0 ≤ 90030 ∧ zPO n B nP r.2.1 r.2.2.1 ∧ r.2.1 ≤ 30 ∧ 0 ≤ r.2.2.2 ∧ r.2.2.2 < 2147483648
  | 0, s, N, PS, c, o, hb, hp, hN, h0, h1, r, hr => by
    have hr2 : (s, N, PS, c) = r := hr
    subst hr2
    exact ⟨o, by show s.1 0 0 ≤ 90030; omega, hp, hN, h0, h1⟩
  | m + 1, s, N, PS, c, o, hb, hp, hN, h0, h1, r, hr => by
    have hd := zdd_ok hn6 hB o h0 h1
    have hk := zhrS_ok (nW := nW) (D := D) P U W hp5 hw6 hn6 hB hd.1 (by have := hd.2.1; omega)
    rw [zdn_s] at hr
    exact zdn_ok P U W hp5 hw6 hn6 hB m _ _ _ _ hk.1 (by have := hk.2.1; have := hd.2.1; omega) (zPO_add hp o (by omega)) (zup_le hN) hd.2.2.1 hd.2.2.2 r hr
theorem s_cdrift (a n nP nW D : Nat) (hp5 : nP ≤ 5) (hw6 : nW ≤ 6) (hD : D ≤ 99) (ha : a ≤ 30) (μ : zM) {B : Nat → Nat} (hH : zHc μ n B) (e1 : μ 3 0 3 = (nP : Int)) (e2 : μ 3 0 4 = (nW : Int)) (e3 : μ 3 0 1 = (D : Int)) (r : (zST × Nat) × Nat × (Nat → zST × Nat) × Int) (K : Int → zM → Prop) (hK : ∀ μ2 X2, zfC μ μ2 → zCS μ2 nP r.1.1 r.1.2 r.2.1 X2 r.2.2.1 r.2.2.2 → K (r.1.1 1 0) μ2) : ∀ m i : Nat, i + m = a → ∀ (μ' : zM) (s : zST × Nat) (N X : Nat) (PS : Nat → zST × Nat) (c : Int), zfC μ μ' → zCS μ' nP s.1 s.2 N X PS c → zOK n B nP s.1 s.2 → 0 ≤ c → c < 2147483648 → s.1 0 0 + m ≤ 90030 → zdn (zhrS (μ 11 0) (μ 12 0) B (fun w c => μ 14 0 (4 * w + c)) n nP nW D) (zdd B n nP) m s N PS c = r → zJ 8 m_X11_drift 14 [some (zR 1 0), some (zI (a : Int)), none, some (zI (i : Int))] μ' (zQ1 K) := by
  have hB : ∀ r, r < n → 1 ≤ B r ∧ B r ≤ 12 := fun r hr => ⟨(hH.2.2.1 r hr).2.1, (hH.2.2.1 r hr).2.2⟩
  intro m
  induction m with
  | zero =>
    intro i hi μ' s N X PS c hf hc o h0 h1 hb hr
    refine k_X11_drift_14 7 a i μ' K ⟨fun _ => ?_, fun q => absurd q (by omega)⟩
    have hr2 : (s, N, PS, c) = r := hr
    subst hr2
    rw [hc.1.2.1]
    exact hK μ' X hf hc
  | succ m ih =>
    intro i hi μ' s N X PS c hf hc o h0 h1 hb hr
    refine k_X11_drift_14 7 a i μ' K ⟨fun q => absurd q (by omega), fun _ => s_cadd 4 μ' hp5 hc _ (fun μ0 c0 f0 => ?_)⟩
    have hf0 := zfC_t hf f0
    have g0 : ∀ t k, t = 3 ∨ 10 ≤ t ∧ t ≤ 14 → μ0 t 0 k = μ t 0 k := fun t k z => hf0 _ _ _ (by unfold zlv; omega) (by omega) (by omega) (by unfold zsc; omega)
    have hd := zdd_ok hH.2.1 hB o h0 h1
    rw [zdn_s] at hr
    refine s_deed 4 n nP hp5 μ0 (zHc_cg g0 hH) (by rw [g0 _ _ (by omega)]; exact e1) o c0 h0 h1 _ (fun μ1 c1 f1 => ?_)
    have hf1 := zfC_t hf0 f1
    have g : ∀ t k, t = 3 ∨ 10 ≤ t ∧ t ≤ 14 → μ1 t 0 k = μ t 0 k := fun t k z => hf1 _ _ _ (by unfold zlv; omega) (by omega) (by omega) (by unfold zsc; omega)
    generalize zdd B n nP s.1 c = e at hd c1 hr
    refine s_anHour 3 0 n nP nW D hp5 hw6 μ1 (zHc_cg g hH) (by rw [g _ _ (by omega)]; exact e1) (by rw [g _ _ (by omega)]; exact e2) (by rw [g _ _ (by omega)]; exact e3) hD hd.1 (by have := hd.2.1; omega) c1.1 _ (fun μ2 hl2 hf2 => ?_)
    rw [z_fix (by omega) (by omega)]
    have q11 : μ1 11 0 = μ 11 0 := funext fun k => g _ _ (by omega)
    have q12 : μ1 12 0 = μ 12 0 := funext fun k => g _ _ (by omega)
    have q14 : (fun w c => μ1 14 0 (4 * w + c)) = (fun w c => μ 14 0 (4 * w + c)) := by funext a b; exact g _ _ (by omega)
    rw [q11, q12, q14] at hl2
    have hk := zhrS_ok (nW := nW) (D := D) (μ 11 0) (μ 12 0) (fun w c => μ 14 0 (4 * w + c)) hp5 hw6 hH.2.1 hB hd.1 (by have := hd.2.1; omega)
    refine ih (i + 1) (by omega) μ2 _ _ ((X + 1) % 30) _ e.2 (zfC_t hf1 (fun t i k z1 z2 z3 z4 => hf2 t i k (fun y => z1 ⟨y.1, by omega⟩))) ⟨hl2, ?_, ?_⟩ hk.1 hd.2.2.1 hd.2.2.2 (by have := hk.2.1; have := hd.2.1; omega) hr
    · obtain ⟨p1, p2, p3, p4, p5⟩ := c1.2.1
      refine ⟨by rw [hf2 _ _ _ (by unfold zlv; omega)]; exact p1, by rw [hf2 _ _ _ (by unfold zlv; omega)]; exact p2, p3, p4, fun k hk => ?_⟩
      exact zLC_cg hp5 (fun _ _ _ => hf2 _ _ _ (by omega)) (fun _ _ => hf2 _ _ _ (by omega)) (fun _ _ _ _ _ => hf2 _ _ _ (by omega)) (fun _ _ => hf2 _ _ _ (by omega)) (p5 k hk)
    · rw [hf2 _ _ _ (by unfold zlv; omega)]; exact c1.2.2
theorem s_mdrift (a n nP nW D : Nat) (hp5 : nP ≤ 5) (hw6 : nW ≤ 6) (hD : D ≤ 99) (ha : a ≤ 30) (μ : zM) {B : Nat → Nat} (hO : zHs μ n B nP nW) (e3 : μ 3 0 1 = (D : Int)) (r : (zST × Nat) × Nat × (Nat → zST × Nat) × Int) (K : Int → zM → Prop) (hK : ∀ μ2, zfM μ μ2 → zMS μ2 nP r.1.1 r.1.2 r.2.1 r.2.2.1 r.2.2.2 → K (r.1.1 1 0) μ2) : ∀ m i : Nat, i + m = a → ∀ (μ' : zM) (s : zST × Nat) (N : Nat) (PS : Nat → zST × Nat) (c : Int), zfM μ μ' → N ≤ 30 → zMS μ' nP s.1 s.2 N PS c → zOK n B nP s.1 s.2 → 0 ≤ c → c < 2147483648 → s.1 0 0 + m ≤ 90030 → zdn (zhrS (μ 11 0) (μ 12 0) B (fun w c => μ 14 0 (4 * w + c)) n nP nW D) (zdd B n nP) m s N PS c = r → zJ 8 m_X12_drift 14 [some (zR 9 0), some (zI (a : Int)), none, some (zI (i : Int)), none] μ' (zQ1 K) := by
  have hH := hO.1
  have hB : ∀ r, r < n → 1 ≤ B r ∧ B r ≤ 12 := fun r hr => ⟨(hH.2.2.1 r hr).2.1, (hH.2.2.1 r hr).2.2⟩
  intro m
  induction m with
  | zero =>
    intro i hi μ' s N PS c hf hN hc o h0 h1 hb hr
    have hr2 : (s, N, PS, c) = r := hr
    subst hr2
    have e21 := hc.1.2.1
    rw [Nat.zero_add] at e21
    refine k_X12_drift_14 7 a i μ' K ⟨fun _ => ⟨by omega, ?_⟩, fun q => absurd q (by omega)⟩
    rw [e21]
    exact hK μ' hf hc
  | succ m ih =>
    intro i hi μ' s N PS c hf hN hc o h0 h1 hb hr
    refine k_X12_drift_14 7 a i μ' K ⟨fun q => absurd q (by omega), fun _ => s_mrem 6 μ' hp5 hN hc _ (fun μ0 c0 f0 => ?_)⟩
    have hf0 := zfM_t hf f0
    have g0 : ∀ t k, t = 3 ∨ 10 ≤ t ∧ t ≤ 14 → μ0 t 0 k = μ t 0 k := fun t k z => hf0 _ _ _ (by omega) (by omega) (by omega) (by unfold zsc; omega)
    have g033 : ∀ k, μ0 33 0 k = μ 33 0 k := fun k => hf0 _ _ _ (by omega) (by omega) (by omega) (by unfold zsc; omega)
    have hHs0 := zHs_cg g0 g033 hO
    have hd := zdd_ok hH.2.1 hB o h0 h1
    rw [zdn_s] at hr
    have go : ∀ μ1, zMS μ1 nP (zdd B n nP s.1 c).1 s.2 (zup N) (zpu N PS s.1 s.2) (zdd B n nP s.1 c).2 → zfM μ0 μ1 → zC1 7 m_X12_hourGoes [zR 9 0, zR 34 0, zI (-1)] μ1 (fun x2 μ2 => zJ 8 m_X12_drift 14 [some (zR 9 0), some (zI (a : Int)), none, some (zI (w32 ((i : Int) + 1))), none] μ2 (zQ1 K)) := by
      intro μ1 c1 f1
      have hf1 := zfM_t hf0 f1
      have g : ∀ t k, t = 3 ∨ 10 ≤ t ∧ t ≤ 14 → μ1 t 0 k = μ t 0 k := fun t k z => hf1 _ _ _ (by omega) (by omega) (by omega) (by unfold zsc; omega)
      have g33 : ∀ k, μ1 33 0 k = μ 33 0 k := fun k => hf1 _ _ _ (by omega) (by omega) (by omega) (by unfold zsc; omega)
      generalize zdd B n nP s.1 c = e at hd c1 hr
      refine s_hourGoes 4 0 n nP nW D (-1) hp5 hw6 μ1 (zHs_cg g g33 hO) (by rw [g _ _ (by omega)]; exact e3) hD hd.1 (by have := hd.2.1; omega) c1.1 _ (fun μ2 hl2 _ hf2 => ?_)
      rw [z_fix (by omega) (by omega)]
      have q11 : μ1 11 0 = μ 11 0 := funext fun k => g _ _ (by omega)
      have q12 : μ1 12 0 = μ 12 0 := funext fun k => g _ _ (by omega)
      have q14 : (fun w c => μ1 14 0 (4 * w + c)) = (fun w c => μ 14 0 (4 * w + c)) := by funext a b; exact g _ _ (by omega)
      rw [q11, q12, q14] at hl2
      have hk := zhrS_ok (nW := nW) (D := D) (μ 11 0) (μ 12 0) (fun w c => μ 14 0 (4 * w + c)) hp5 hw6 hH.2.1 hB hd.1 (by have := hd.2.1; omega)
      refine ih (i + 1) (by omega) μ2 _ _ _ e.2 (zfM_t hf1 (fun t i k z1 z2 z3 z4 => hf2 t i k (by omega) (fun y => z4 (by unfold zsc; omega)))) (zup_le hN) ⟨hl2, ⟨?_, fun k hk => ?_⟩, ?_⟩ hk.1 hd.2.2.1 hd.2.2.2 (by have := hk.2.1; have := hd.2.1; omega) hr
      · rw [hf2 _ _ _ (by omega) (by omega)]; exact c1.2.1.1
      · exact zLN_cg hp5 (fun _ _ => hf2 _ _ _ (by omega) (by omega)) (c1.2.1.2 k hk)
      · rw [hf2 _ _ _ (by omega) (by omega)]; exact c1.2.2
    refine ⟨by omega, fun q => go μ0 ?_ (zfM_r μ0), fun q => s_mdeed 6 n nP nW ?_ hp5 μ0 hHs0 o c0 h0 h1 _ (fun μ1 c1 f1 => go μ1 c1 f1)⟩
    · rw [hHs0.2.1.1] at q
      unfold zdd
      rw [if_pos (show n = 0 by omega)]
      exact c0
    · rw [hHs0.2.1.1] at q
      omega
theorem q_drift (μ : zM) (hR : zRel μ) (a : Int) : zAsk m_X11_drift m_X12_drift [zI a] μ := by
  obtain ⟨n, B, nP, nW, S, M, N, X, PS, c, hO, hC, hM, hD⟩ := zRel_to hR
  have hp5 := zHO_5 hO
  have hHc := hO.1.1
  have u5 := hO.1.2.2.2.2.1
  have u6 := hO.1.2.2.2.2.2.1
  have hP1 := hO.1.2.2.2.2.2.2.2.1.1
  have hW1 := hO.1.2.2.2.2.2.2.2.2.2.1.1
  have hw6 := hO.1.2.2.2.2.2.2.2.2.2.1.2.2.1
  have eh : μ 4 0 1 = S 0 0 := hC.1.1
  have eh2 : μ 34 0 22 = S 0 0 := by have := hM.1.1; rw [Nat.zero_add] at this; exact this
  obtain ⟨D, hDe⟩ := Int.eq_ofNat_of_zero_le u6.2.1
  have hB : ∀ r, r < n → 1 ≤ B r ∧ B r ≤ 12 := fun r hr => ⟨(hHc.2.2.1 r hr).2.1, (hHc.2.2.1 r hr).2.2⟩
  refine k_X11_drift 7 a μ _ (k_X11_refusalOfHours 7 a μ _ ⟨fun q => ⟨fun z => absurd z (by decide), fun _ => ?_⟩, fun q1 => ⟨fun q2 => ⟨fun q3 => ⟨fun q4 => ⟨fun _ => ?_, fun z => absurd rfl z⟩, fun q4 => ⟨fun z => absurd z (by decide), fun _ => ?_⟩⟩, fun q3 => ⟨fun z => absurd z (by decide), fun _ => ?_⟩⟩, fun q => ⟨fun z => absurd z (by decide), fun _ => ?_⟩⟩⟩)
  · exact k_X12_drift 7 a μ _ (k_X12_refuses 6 a μ _ (s_in _ _ _ _ _ _ (fun _ _ => absurd q (by omega)) (fun _ => ⟨fun z => absurd rfl z, fun _ => ⟨fun z => absurd z (by decide), fun _ => ⟨rfl, hR⟩⟩⟩)))
  · obtain ⟨a, rfl⟩ := Int.eq_ofNat_of_zero_le (show 0 ≤ a by omega)
    rw [eh] at q4
    generalize hr : zdn (zhrS (μ 11 0) (μ 12 0) B (fun w c => μ 14 0 (4 * w + c)) n nP nW D) (zdd B n nP) a (S, M) N PS c = r
    have hk := zdn_ok (nW := nW) (D := D) (μ 11 0) (μ 12 0) (fun w c => μ 14 0 (4 * w + c)) hp5 hw6 hHc.2.1 hB a (S, M) N PS c hD.1 (by show S 0 0 + (a : Int) ≤ 90030; omega) hD.2.1 hC.2.1.2.2.2.1 hD.2.2.2.1 hD.2.2.2.2 r hr
    refine s_cdrift a n nP nW D hp5 hw6 (by omega) (by omega) μ hHc hP1 hW1 hDe r _ (fun μ2 X2 f2 c2 => ?_) a 0 (by omega) μ (S, M) N X PS c (zfC_r μ) hC hD.1 hD.2.2.2.1 hD.2.2.2.2 (by show S 0 0 + (a : Int) ≤ 90030; omega) hr
    have hO2 := zHO_C f2 hO
    have hM2 := zMS_C hp5 f2 hM
    have g : ∀ t k, t = 3 ∨ 10 ≤ t ∧ t ≤ 14 → μ2 t 0 k = μ t 0 k := fun t k z => f2 _ _ _ (by unfold zlv; omega) (by omega) (by omega) (by unfold zsc; omega)
    have q11 : μ2 11 0 = μ 11 0 := funext fun k => g _ _ (by omega)
    have q12 : μ2 12 0 = μ 12 0 := funext fun k => g _ _ (by omega)
    have q14 : (fun w c => μ2 14 0 (4 * w + c)) = (fun w c => μ 14 0 (4 * w + c)) := by funext a b; exact g _ _ (by omega)
    refine k_X12_drift 7 a μ2 _ (k_X12_refuses 6 a μ2 _ (s_in _ _ _ _ _ _ (fun _ _ => ⟨fun _ => ⟨by omega, fun _ => ⟨by omega, fun _ => ⟨fun _ => ?_, fun z => absurd rfl z⟩, fun z => absurd ?_ z⟩, fun z => absurd ?_ z⟩, fun z => absurd (show (1 : Int) ≠ 0 by decide) z⟩) (fun q => absurd q (by omega))))
    · refine s_mdrift a n nP nW D hp5 hw6 (by omega) (by omega) μ2 hO2.1 (by rw [g _ _ (by omega)]; exact hDe) r _ (fun μ3 f3 m3 => ⟨rfl, zRel_of (zHO_M f3 hO2) (zCS_M hp5 f3 c2) m3 ⟨hk.1, hk.2.2.1, hk.2.1, hk.2.2.2.2⟩⟩) a 0 (by omega) μ2 (S, M) N PS c (zfM_r μ2) hC.2.1.2.2.2.1 hM2 hD.1 hD.2.2.2.1 hD.2.2.2.2 (by show S 0 0 + (a : Int) ≤ 90030; omega) ?_
      rw [q11, q12, q14]; exact hr
    · have := hM2.1.1; rw [Nat.zero_add] at this; rw [this]; exact q4
    · rw [hO2.1.2.2.2.2.1.1, g _ _ (by omega)]; exact q3
  · exact k_X12_drift 7 a μ _ (k_X12_refuses 6 a μ _ (s_in _ _ _ _ _ _ (fun _ _ => ⟨fun _ => ⟨by omega, fun _ => ⟨by omega, fun z => absurd (by rw [eh, ← eh2]; exact z) q4, fun _ => ⟨fun z => absurd z (by decide), fun _ => ⟨rfl, hR⟩⟩⟩, fun z => absurd (by rw [u5.1]; exact q3) z⟩, fun z => absurd (show (1 : Int) ≠ 0 by decide) z⟩) (fun q => absurd q (by omega))))
  · exact k_X12_drift 7 a μ _ (k_X12_refuses 6 a μ _ (s_in _ _ _ _ _ _ (fun _ _ => ⟨fun _ => ⟨by omega, fun z => absurd (by rw [← u5.1]; exact z) q3, fun _ => ⟨fun z => absurd z (by decide), fun _ => ⟨rfl, hR⟩⟩⟩, fun z => absurd (show (1 : Int) ≠ 0 by decide) z⟩) (fun q => absurd q (by omega))))
  · exact k_X12_drift 7 a μ _ (k_X12_refuses 6 a μ _ (s_in _ _ _ _ _ _ (fun _ _ => absurd q (by omega)) (fun _ => ⟨fun z => absurd rfl z, fun _ => ⟨fun z => absurd z (by decide), fun _ => ⟨rfl, hR⟩⟩⟩)))
