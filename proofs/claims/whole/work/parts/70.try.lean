/-! TRIED: WHERE, MEETS, both sides -/
def zitF (F : zST × Nat → zST × Nat) : Nat → zST × Nat → zST × Nat
  | 0, s => s
  | m + 1, s => zitF F m (F s)
theorem zitF_s (F : zST × Nat → zST × Nat) (m : Nat) (s : zST × Nat) : zitF F (m + 1) s = zitF F m (F s) := rfl
theorem s_ctried (a n nP nW D : Nat) (ha : a ≤ 99) (hp5 : nP ≤ 5) (hw6 : nW ≤ 6) (hD : D ≤ 99) (μ : zM) {B : Nat → Nat} (hH : zHc μ n B) (e1 : μ 3 0 3 = (nP : Int)) (e2 : μ 3 0 4 = (nW : Int)) (e3 : μ 3 0 1 = (D : Int)) {S : zST} {M : Nat} (o : zOK n B nP S M) (ho : S 0 0 ≤ 90030) (h : zLC μ nP 0 S M) (K : Int → zM → Prop) (hK : ∀ μ', zLC μ' nP 1 (zitF (zhrS (μ 11 0) (μ 12 0) B (fun w c => μ 14 0 (4 * w + c)) n nP nW D) a (S, M)).1 (zitF (zhrS (μ 11 0) (μ 12 0) B (fun w c => μ 14 0 (4 * w + c)) n nP nW D) a (S, M)).2 → (∀ t i k, ¬ (zlv t ∧ i = 1) → μ' t i k = μ t i k) → K (((zitF (zhrS (μ 11 0) (μ 12 0) B (fun w c => μ 14 0 (4 * w + c)) n nP nW D) a (S, M)).2 - M : Nat) : Int) μ') : zC1 7 m_X11_meetingsTried [zR 1 0, zI (a : Int)] μ K := by
  have hB : ∀ r, r < n → 1 ≤ B r ∧ B r ≤ 12 := fun r hr => ⟨(hH.2.2.1 r hr).2.1, (hH.2.2.1 r hr).2.2⟩
  have hM : M ≤ 15000000 := by have := o.2.2.1; omega
  refine k_X11_meetingsTried 6 a μ K (s_become 4 1 0 (by omega) μ _ (fun μ1 hb => ?_))
  have L : ∀ m i : Nat, i + m = a → ∀ (μ' : zM) (s : zST × Nat), zLC μ' nP 1 s.1 s.2 → (∀ t i k, ¬ (zlv t ∧ i = 1) → μ' t i k = μ t i k) → zOK n B nP s.1 s.2 → s.1 0 0 + m ≤ 91000 → M ≤ s.2 → s.2 ≤ M + 150 * i → zitF (zhrS (μ 11 0) (μ 12 0) B (fun w c => μ 14 0 (4 * w + c)) n nP nW D) m s = zitF (zhrS (μ 11 0) (μ 12 0) B (fun w c => μ 14 0 (4 * w + c)) n nP nW D) a (S, M) → zJ 7 m_X11_meetingsTried 15 [some (zR 1 0), some (zI (a : Int)), some (zI ((s.2 - M : Nat) : Int)), some (zI (i : Int))] μ' (zQ1 K) := by
    intro m
    induction m with
    | zero =>
      intro i hi μ' s hl hf o' hb h1 h2 hr
      refine k_X11_meetingsTried_15 6 a _ i μ' K ⟨fun _ => ?_, fun q => absurd q (by omega)⟩
      have hr2 : s = zitF (zhrS (μ 11 0) (μ 12 0) B (fun w c => μ 14 0 (4 * w + c)) n nP nW D) a (S, M) := hr
      rw [← hr2] at hK
      exact hK μ' hl hf
    | succ m ih =>
      intro i hi μ' s hl hf o' hb h1 h2 hr
      have g : ∀ t k, t = 3 ∨ 10 ≤ t ∧ t ≤ 14 → μ' t 0 k = μ t 0 k := fun t k z => hf _ _ _ (by omega)
      refine k_X11_meetingsTried_15 6 a _ i μ' K ⟨fun q => absurd q (by omega), fun _ => s_anHour 2 1 n nP nW D hp5 hw6 μ' (zHc_cg g hH) (by rw [g _ _ (by omega)]; exact e1) (by rw [g _ _ (by omega)]; exact e2) (by rw [g _ _ (by omega)]; exact e3) hD o' (by omega) hl _ (fun μ2 hl2 hf2 => ?_)⟩
      have q11 : μ' 11 0 = μ 11 0 := funext fun k => g _ _ (by omega)
      have q12 : μ' 12 0 = μ 12 0 := funext fun k => g _ _ (by omega)
      have q14 : (fun w c => μ' 14 0 (4 * w + c)) = (fun w c => μ 14 0 (4 * w + c)) := by funext a b; exact g _ _ (by omega)
      rw [q11, q12, q14] at hl2 ⊢
      have hk := zhrS_ok (nW := nW) (D := D) (μ 11 0) (μ 12 0) (fun w c => μ 14 0 (4 * w + c)) hp5 hw6 hH.2.1 hB o' (by omega)
      rw [show (s.1, s.2) = s from rfl] at hk hl2 ⊢
      rw [zitF_s] at hr
      generalize zhrS (μ 11 0) (μ 12 0) B (fun w c => μ 14 0 (4 * w + c)) n nP nW D s = s' at hk hl2 hr ⊢
      rw [z_fix (show (-2147483648 : Int) ≤ (i : Int) + 1 by omega) (by omega), z_fix (by omega) (by omega), show ((s.2 - M : Nat) : Int) + ((s'.2 - s.2 : Nat) : Int) = ((s'.2 - M : Nat) : Int) by omega]
      exact ih (i + 1) (by omega) μ2 s' hl2 (fun t i k z => (hf2 t i k z).trans (hf t i k z)) hk.1 (by have := hk.2.1; omega) (by omega) (by omega) hr
  have h0 := L a 0 (by omega) μ1 (S, M) (zbec_lc hp5 hb h) (fun t i k z => hb.2.2.2.2 t i k z) o (by show S 0 0 + (a : Int) ≤ 91000; omega) (Nat.le_refl _) (by show M ≤ M + 150 * 0; omega) rfl
  rw [show ((((S, M) : zST × Nat).2 - M : Nat) : Int) = 0 by show ((M - M : Nat) : Int) = 0; omega] at h0
  exact h0
theorem s_layAside (d : Nat) (μ : zM) {nP : Nat} (hp5 : nP ≤ 5) {S : zST} {M : Nat} (h : zLN μ nP 34 0 0 S M) (K : zM → Prop) (hK : ∀ μ', zLN μ' nP 34 1 0 S M → (∀ t i k, ¬ (t = 34 ∧ i = 1) → μ' t i k = μ t i k) → K μ') : zC0 (d + 1) m_X12_layAside [zR 9 0] μ K := by
  refine k_X12_layAside d μ K (s_copies_34_34 d 0 0 1 0 44 (by omega) (by omega) (by omega) μ _ (hK _ (zLN_cg hp5 (fun k hk => ?_) h) (fun t i k z => zcyo (by omega))))
  rw [zcyi (by omega) (by omega) rfl rfl, show 0 + (0 + k - 0) = 0 + k by omega]
/-- the model's loops of trial hours -/
theorem s_mtryW (a p n nP nW D : Nat) (hp : p < nP) (hp5 : nP ≤ 5) (hw6 : nW ≤ 6) (hD : D ≤ 99) (ha : a ≤ 99) (μ : zM) {B : Nat → Nat} (hO : zHs μ n B nP nW) (e3 : μ 3 0 1 = (D : Int)) (r : zST × Nat) (K : Int → zM → Prop) (hK : ∀ μ2, (∀ t i k, ¬ (t = 34 ∧ i = 1) → ¬ (t = 9 ∧ k = 24) → μ2 t i k = μ t i k) → K (r.1 5 p) μ2) : ∀ m i : Nat, i + m = a → ∀ (μ' : zM) (s : zST × Nat), zLN μ' nP 34 1 0 s.1 s.2 → (∀ t i k, ¬ (t = 34 ∧ i = 1) → ¬ (t = 9 ∧ k = 24) → μ' t i k = μ t i k) → zOK n B nP s.1 s.2 → s.1 0 0 + m ≤ 91000 → zitF (zhrS (μ 11 0) (μ 12 0) B (fun w c => μ 14 0 (4 * w + c)) n nP nW D) m s = r → zJ 8 m_X12_where 32 [some (zR 9 0), some (zI (p : Int)), some (zI (a : Int)), some (zI (i : Int)), none] μ' (zQ1 K) := by
  have hH := hO.1
  have hB : ∀ r, r < n → 1 ≤ B r ∧ B r ≤ 12 := fun r hr => ⟨(hH.2.2.1 r hr).2.1, (hH.2.2.1 r hr).2.2⟩
  intro m
  induction m with
  | zero =>
    intro i hi μ' s hl hf o hb hr
    have hr2 : s = r := hr
    subst hr2
    have e5 := (hl.2.2.2.2.1 p hp).2.1
    rw [Nat.zero_add] at e5
    refine k_X12_where_32 7 p a i μ' K ⟨fun _ => ?_, fun q => absurd q (by omega)⟩
    rw [z_i (c := 11) (m := 11 + p) (by omega) (by omega), Int.toNat_natCast, e5]
    exact ⟨⟨by omega, by omega⟩, hK μ' hf⟩
  | succ m ih =>
    intro i hi μ' s hl hf o hb hr
    have g : ∀ t k, t = 3 ∨ 10 ≤ t ∧ t ≤ 14 → μ' t 0 k = μ t 0 k := fun t k z => hf _ _ _ (by omega) (by omega)
    refine k_X12_where_32 7 p a i μ' K ⟨fun q => absurd q (by omega), fun _ => s_hourGoes 4 1 n nP nW D (-1) hp5 hw6 μ' (zHs_cg g (fun k => hf _ _ _ (by omega) (by omega)) hO) (by rw [g _ _ (by omega)]; exact e3) hD o (by omega) hl _ (fun μ2 hl2 _ hf2 => ?_)⟩
    have q11 : μ' 11 0 = μ 11 0 := funext fun k => g _ _ (by omega)
    have q12 : μ' 12 0 = μ 12 0 := funext fun k => g _ _ (by omega)
    have q14 : (fun w c => μ' 14 0 (4 * w + c)) = (fun w c => μ 14 0 (4 * w + c)) := by funext a b; exact g _ _ (by omega)
    rw [q11, q12, q14] at hl2
    have hk := zhrS_ok (nW := nW) (D := D) (μ 11 0) (μ 12 0) (fun w c => μ 14 0 (4 * w + c)) hp5 hw6 hH.2.1 hB o (by omega)
    rw [show (s.1, s.2) = s from rfl] at hk hl2
    rw [zitF_s] at hr
    rw [z_fix (by omega) (by omega)]
    exact ih (i + 1) (by omega) μ2 _ hl2 (fun t i k z1 z2 => (hf2 t i k z1 z2).trans (hf t i k z1 z2)) hk.1 (by have := hk.2.1; omega) hr
theorem s_mtryM (a n nP nW D M : Nat) (hp5 : nP ≤ 5) (hw6 : nW ≤ 6) (hD : D ≤ 99) (ha : a ≤ 99) (hM : M ≤ 15000000) (μ : zM) {B : Nat → Nat} (hO : zHs μ n B nP nW) (e3 : μ 3 0 1 = (D : Int)) (r : zST × Nat) (K : Int → zM → Prop) (hK : ∀ μ2, (∀ t i k, ¬ (t = 34 ∧ i = 1) → ¬ (t = 9 ∧ k = 24) → μ2 t i k = μ t i k) → K ((r.2 - M : Nat) : Int) μ2) : ∀ m i : Nat, i + m = a → ∀ (μ' : zM) (s : zST × Nat), zLN μ' nP 34 1 0 s.1 s.2 → (∀ t i k, ¬ (t = 34 ∧ i = 1) → ¬ (t = 9 ∧ k = 24) → μ' t i k = μ t i k) → zOK n B nP s.1 s.2 → s.1 0 0 + m ≤ 91000 → M ≤ s.2 → s.2 ≤ M + 150 * i → zitF (zhrS (μ 11 0) (μ 12 0) B (fun w c => μ 14 0 (4 * w + c)) n nP nW D) m s = r → zJ 8 m_X12_meets 23 [some (zR 9 0), some (zI (a : Int)), some (zI ((s.2 - M : Nat) : Int)), some (zI (i : Int))] μ' (zQ1 K) := by
  have hH := hO.1
  have hB : ∀ r, r < n → 1 ≤ B r ∧ B r ≤ 12 := fun r hr => ⟨(hH.2.2.1 r hr).2.1, (hH.2.2.1 r hr).2.2⟩
  intro m
  induction m with
  | zero =>
    intro i hi μ' s hl hf o hb h1 h2 hr
    have hr2 : s = r := hr
    subst hr2
    exact k_X12_meets_23 7 a _ i μ' K ⟨fun _ => hK μ' hf, fun q => absurd q (by omega)⟩
  | succ m ih =>
    intro i hi μ' s hl hf o hb h1 h2 hr
    have g : ∀ t k, t = 3 ∨ 10 ≤ t ∧ t ≤ 14 → μ' t 0 k = μ t 0 k := fun t k z => hf _ _ _ (by omega) (by omega)
    refine k_X12_meets_23 7 a _ i μ' K ⟨fun q => absurd q (by omega), fun _ => s_hourGoes 4 1 n nP nW D (-1) hp5 hw6 μ' (zHs_cg g (fun k => hf _ _ _ (by omega) (by omega)) hO) (by rw [g _ _ (by omega)]; exact e3) hD o (by omega) hl _ (fun μ2 hl2 _ hf2 => ?_)⟩
    have q11 : μ' 11 0 = μ 11 0 := funext fun k => g _ _ (by omega)
    have q12 : μ' 12 0 = μ 12 0 := funext fun k => g _ _ (by omega)
    have q14 : (fun w c => μ' 14 0 (4 * w + c)) = (fun w c => μ 14 0 (4 * w + c)) := by funext a b; exact g _ _ (by omega)
    rw [q11, q12, q14] at hl2 ⊢
    have hk := zhrS_ok (nW := nW) (D := D) (μ 11 0) (μ 12 0) (fun w c => μ 14 0 (4 * w + c)) hp5 hw6 hH.2.1 hB o (by omega)
    rw [show (s.1, s.2) = s from rfl] at hk hl2 ⊢
    rw [zitF_s] at hr
    generalize zhrS (μ 11 0) (μ 12 0) B (fun w c => μ 14 0 (4 * w + c)) n nP nW D s = s' at hk hl2 hr ⊢
    rw [z_fix (show (-2147483648 : Int) ≤ (i : Int) + 1 by omega) (by omega), z_fix (by omega) (by omega), show ((s.2 - M : Nat) : Int) + ((s'.2 - s.2 : Nat) : Int) = ((s'.2 - M : Nat) : Int) by omega]
    exact ih (i + 1) (by omega) μ2 s' hl2 (fun t i k z1 z2 => (hf2 t i k z1 z2).trans (hf t i k z1 z2)) hk.1 (by have := hk.2.1; omega) (by omega) (by omega) hr
