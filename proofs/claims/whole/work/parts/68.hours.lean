/-! HOUR, both sides -/
def zhn (F : zST × Nat → zST × Nat) : Nat → zST × Nat → Nat → (Nat → zST × Nat) → (zST × Nat) × Nat × (Nat → zST × Nat)
  | 0, s, N, PS => (s, N, PS)
  | m + 1, s, N, PS => zhn F m (F s) (zup N) (zpu N PS s.1 s.2)
theorem zhn_s (F : zST × Nat → zST × Nat) (m : Nat) (s : zST × Nat) (N : Nat) (PS : Nat → zST × Nat) : zhn F (m + 1) s N PS = zhn F m (F s) (zup N) (zpu N PS s.1 s.2) := rfl
theorem s_chours (a n nP nW D : Nat) (hp5 : nP ≤ 5) (hw6 : nW ≤ 6) (hD : D ≤ 99) (ha : a ≤ 30) (μ : zM) {B : Nat → Nat} (hH : zHc μ n B) (e1 : μ 3 0 3 = (nP : Int)) (e2 : μ 3 0 4 = (nW : Int)) (e3 : μ 3 0 1 = (D : Int)) {c : Int} (r : (zST × Nat) × Nat × (Nat → zST × Nat)) (K : Int → zM → Prop) (hK : ∀ μ2 X2, zfC μ μ2 → zCS μ2 nP r.1.1 r.1.2 r.2.1 X2 r.2.2 c → K (r.1.1 1 0) μ2) : ∀ m i : Nat, i + m = a → ∀ (μ' : zM) (s : zST × Nat) (N X : Nat) (PS : Nat → zST × Nat), zfC μ μ' → zCS μ' nP s.1 s.2 N X PS c → zOK n B nP s.1 s.2 → s.1 0 0 + m ≤ 90030 → zhn (zhrS (μ 11 0) (μ 12 0) B (fun w c => μ 14 0 (4 * w + c)) n nP nW D) m s N PS = r → zJ 8 m_X11_hour 14 [some (zR 1 0), some (zI (a : Int)), none, some (zI (i : Int))] μ' (zQ1 K) := by
  have hB : ∀ r, r < n → 1 ≤ B r ∧ B r ≤ 12 := fun r hr => ⟨(hH.2.2.1 r hr).2.1, (hH.2.2.1 r hr).2.2⟩
  intro m
  induction m with
  | zero =>
    intro i hi μ' s N X PS hf hc o hb hr
    refine k_X11_hour_14 7 a i μ' K ⟨fun _ => ?_, fun q => absurd q (by omega)⟩
    have hr2 : (s, N, PS) = r := hr
    subst hr2
    rw [hc.1.2.1]
    exact hK μ' X hf hc
  | succ m ih =>
    intro i hi μ' s N X PS hf hc o hb hr
    refine k_X11_hour_14 7 a i μ' K ⟨fun q => absurd q (by omega), fun _ => s_cadd 4 μ' hp5 hc _ (fun μ1 c1 f1 => ?_)⟩
    have hf1 := zfC_t hf f1
    have g : ∀ t k, t = 3 ∨ 10 ≤ t ∧ t ≤ 14 → μ1 t 0 k = μ t 0 k := fun t k z => hf1 _ _ _ (by unfold zlv; omega) (by omega) (by omega) (by unfold zsc; omega)
    refine s_anHour 3 0 n nP nW D hp5 hw6 μ1 (zHc_cg g hH) (by rw [g _ _ (by omega)]; exact e1) (by rw [g _ _ (by omega)]; exact e2) (by rw [g _ _ (by omega)]; exact e3) hD o (by omega) c1.1 _ (fun μ2 hl2 hf2 => ?_)
    rw [z_fix (by omega) (by omega)]
    have q11 : μ1 11 0 = μ 11 0 := funext fun k => g _ _ (by omega)
    have q12 : μ1 12 0 = μ 12 0 := funext fun k => g _ _ (by omega)
    have q14 : (fun w c => μ1 14 0 (4 * w + c)) = (fun w c => μ 14 0 (4 * w + c)) := by funext a b; exact g _ _ (by omega)
    rw [q11, q12, q14] at hl2
    have hk := zhrS_ok (nW := nW) (D := D) (μ 11 0) (μ 12 0) (fun w c => μ 14 0 (4 * w + c)) hp5 hw6 hH.2.1 hB o (by omega)
    rw [zhn_s] at hr
    refine ih (i + 1) (by omega) μ2 _ _ ((X + 1) % 30) _ (zfC_t hf1 (fun t i k z1 z2 z3 z4 => hf2 t i k (fun y => z1 ⟨y.1, by omega⟩))) ⟨hl2, ?_, ?_⟩ hk.1 (by have := hk.2.1; omega) hr
    · obtain ⟨p1, p2, p3, p4, p5⟩ := c1.2.1
      refine ⟨by rw [hf2 _ _ _ (by unfold zlv; omega)]; exact p1, by rw [hf2 _ _ _ (by unfold zlv; omega)]; exact p2, p3, p4, fun k hk => ?_⟩
      exact zLC_cg hp5 (fun _ _ _ => hf2 _ _ _ (by omega)) (fun _ _ => hf2 _ _ _ (by omega)) (fun _ _ _ _ _ => hf2 _ _ _ (by omega)) (fun _ _ => hf2 _ _ _ (by omega)) (p5 k hk)
    · rw [hf2 _ _ _ (by unfold zlv; omega)]; exact c1.2.2
theorem s_mhours (a n nP nW D : Nat) (hp5 : nP ≤ 5) (hw6 : nW ≤ 6) (hD : D ≤ 99) (ha : a ≤ 30) (μ : zM) {B : Nat → Nat} (hO : zHs μ n B nP nW) (e3 : μ 3 0 1 = (D : Int)) {c : Int} (r : (zST × Nat) × Nat × (Nat → zST × Nat)) (K : Int → zM → Prop) (hK : ∀ μ2, zfM μ μ2 → zMS μ2 nP r.1.1 r.1.2 r.2.1 r.2.2 c → K (r.1.1 1 0) μ2) : ∀ m i : Nat, i + m = a → ∀ (μ' : zM) (s : zST × Nat) (N : Nat) (PS : Nat → zST × Nat), zfM μ μ' → N ≤ 30 → zMS μ' nP s.1 s.2 N PS c → zOK n B nP s.1 s.2 → s.1 0 0 + m ≤ 90030 → zhn (zhrS (μ 11 0) (μ 12 0) B (fun w c => μ 14 0 (4 * w + c)) n nP nW D) m s N PS = r → zJ 8 m_X12_hour 14 [some (zR 9 0), some (zI (a : Int)), none, some (zI (i : Int)), none] μ' (zQ1 K) := by
  have hH := hO.1
  have hB : ∀ r, r < n → 1 ≤ B r ∧ B r ≤ 12 := fun r hr => ⟨(hH.2.2.1 r hr).2.1, (hH.2.2.1 r hr).2.2⟩
  intro m
  induction m with
  | zero =>
    intro i hi μ' s N PS hf hN hc o hb hr
    have hr2 : (s, N, PS) = r := hr
    subst hr2
    have e21 := hc.1.2.1
    rw [Nat.zero_add] at e21
    refine k_X12_hour_14 7 a i μ' K ⟨fun _ => ⟨by omega, ?_⟩, fun q => absurd q (by omega)⟩
    rw [e21]
    exact hK μ' hf hc
  | succ m ih =>
    intro i hi μ' s N PS hf hN hc o hb hr
    refine k_X12_hour_14 7 a i μ' K ⟨fun q => absurd q (by omega), fun _ => s_mrem 6 μ' hp5 hN hc _ (fun μ1 c1 f1 => ?_)⟩
    have hf1 := zfM_t hf f1
    have g : ∀ t k, t = 3 ∨ 10 ≤ t ∧ t ≤ 14 → μ1 t 0 k = μ t 0 k := fun t k z => hf1 _ _ _ (by omega) (by omega) (by omega) (by unfold zsc; omega)
    have g33 : ∀ k, μ1 33 0 k = μ 33 0 k := fun k => hf1 _ _ _ (by omega) (by omega) (by omega) (by unfold zsc; omega)
    refine s_hourGoes 4 0 n nP nW D (-1) hp5 hw6 μ1 (zHs_cg g g33 hO) (by rw [g _ _ (by omega)]; exact e3) hD o (by omega) c1.1 _ (fun μ2 hl2 _ hf2 => ?_)
    rw [z_fix (by omega) (by omega)]
    have q11 : μ1 11 0 = μ 11 0 := funext fun k => g _ _ (by omega)
    have q12 : μ1 12 0 = μ 12 0 := funext fun k => g _ _ (by omega)
    have q14 : (fun w c => μ1 14 0 (4 * w + c)) = (fun w c => μ 14 0 (4 * w + c)) := by funext a b; exact g _ _ (by omega)
    rw [q11, q12, q14] at hl2
    have hk := zhrS_ok (nW := nW) (D := D) (μ 11 0) (μ 12 0) (fun w c => μ 14 0 (4 * w + c)) hp5 hw6 hH.2.1 hB o (by omega)
    rw [zhn_s] at hr
    refine ih (i + 1) (by omega) μ2 _ _ _ (zfM_t hf1 (fun t i k z1 z2 z3 z4 => hf2 t i k (by omega) (fun y => z4 (by unfold zsc; omega)))) (zup_le hN) ⟨hl2, ⟨?_, fun k hk => ?_⟩, ?_⟩ hk.1 (by have := hk.2.1; omega) hr
    · rw [hf2 _ _ _ (by omega) (by omega)]; exact c1.2.1.1
    · exact zLN_cg hp5 (fun _ _ => hf2 _ _ _ (by omega) (by omega)) (c1.2.1.2 k hk)
    · rw [hf2 _ _ _ (by omega) (by omega)]; exact c1.2.2
