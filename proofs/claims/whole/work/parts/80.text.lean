/-! THE TEXT, read letter by letter: words and numbers; the class -/
def zlt (T : Nat → Int) (L a : Nat) : Int := if a < L then T a else -1
def zbl (T : Nat → Int) : Nat → Nat → Nat
  | 0, a => a
  | m + 1, a => if T a = 32 then zbl T m (a + 1) else a
/-- behind the blanks -/
def zsb (T : Nat → Int) (L a : Nat) : Nat := zbl T (L - a) a
def zdg (T : Nat → Int) : Nat → Nat → Nat
  | 0, a => a
  | m + 1, a => if 48 ≤ T a ∧ T a ≤ 57 then zdg T m (a + 1) else a
/-- behind the figures -/
def zsd (T : Nat → Int) (L a : Nat) : Nat := zdg T (L - a) a
/-- j figures from b on -/
def zvv (T : Nat → Int) (b : Nat) : Nat → Int
  | 0 => 0
  | j + 1 => zvv T b j * 10 + T (b + j) - 48
theorem zvv_s (T : Nat → Int) (b j : Nat) : zvv T b (j + 1) = zvv T b j * 10 + T (b + j) - 48 := rfl
abbrev zRs (α : Type) : Type := (Nat × Nat) ⊕ α
def zbnd {α β : Type} (x : zRs α) (f : α → zRs β) : zRs β := match x with
  | .inl e => .inl e
  | .inr a => f a
def zNum (T : Nat → Int) (L a : Nat) (most : Int) : zRs (Int × Nat) := if zsd T L (zsb T L a) = zsb T L a then .inl (1, zsb T L a) else if zsb T L a + 3 < zsd T L (zsb T L a) ∨ most < zvv T (zsb T L a) (zsd T L (zsb T L a) - zsb T L a) then .inl (2, zsb T L a) else .inr (zvv T (zsb T L a) (zsd T L (zsb T L a) - zsb T L a), zsd T L (zsb T L a))
def zPun (T : Nat → Int) (L a : Nat) (sg : Int) : zRs Nat := if zlt T L (zsb T L a) = sg then .inr (zsb T L a + 1) else .inl (1, zsb T L a)
theorem zbl_rg (T : Nat → Int) : ∀ m a, a ≤ zbl T m a ∧ zbl T m a ≤ a + m
  | 0, a => ⟨Nat.le_refl _, Nat.le_refl _⟩
  | m + 1, a => by
    unfold zbl
    have ih := zbl_rg T m (a + 1)
    split <;> omega
theorem zdg_rg (T : Nat → Int) : ∀ m a, a ≤ zdg T m a ∧ zdg T m a ≤ a + m
  | 0, a => ⟨Nat.le_refl _, Nat.le_refl _⟩
  | m + 1, a => by
    unfold zdg
    have ih := zdg_rg T m (a + 1)
    split <;> omega
theorem zsb_rg (T : Nat → Int) {L a : Nat} (h : a ≤ L) : a ≤ zsb T L a ∧ zsb T L a ≤ L := by
  have := zbl_rg T (L - a) a
  unfold zsb; omega
theorem zsd_rg (T : Nat → Int) {L a : Nat} (h : a ≤ L) : a ≤ zsd T L a ∧ zsd T L a ≤ L := by
  have := zdg_rg T (L - a) a
  unfold zsd; omega
theorem zsb_b {T : Nat → Int} {L a : Nat} (h : a < L) (q : T a = 32) : zsb T L a = zsb T L (a + 1) := by
  unfold zsb
  rw [show L - a = (L - (a + 1)) + 1 by omega]
  show (if T a = 32 then zbl T (L - (a + 1)) (a + 1) else a) = _
  rw [if_pos q]
theorem zsb_n {T : Nat → Int} {L a : Nat} (h : a ≤ L) (q : a < L → T a ≠ 32) : zsb T L a = a := by
  unfold zsb
  by_cases e : a < L
  · rw [show L - a = (L - (a + 1)) + 1 by omega]
    show (if T a = 32 then zbl T (L - (a + 1)) (a + 1) else a) = _
    rw [if_neg (q e)]
  · rw [show L - a = 0 by omega]; rfl
theorem zsd_b {T : Nat → Int} {L a : Nat} (h : a < L) (q : 48 ≤ T a ∧ T a ≤ 57) : zsd T L a = zsd T L (a + 1) := by
  unfold zsd
  rw [show L - a = (L - (a + 1)) + 1 by omega]
  show (if 48 ≤ T a ∧ T a ≤ 57 then zdg T (L - (a + 1)) (a + 1) else a) = _
  rw [if_pos q]
theorem zsd_n {T : Nat → Int} {L a : Nat} (h : a ≤ L) (q : a < L → ¬ (48 ≤ T a ∧ T a ≤ 57)) : zsd T L a = a := by
  unfold zsd
  by_cases e : a < L
  · rw [show L - a = (L - (a + 1)) + 1 by omega]
    show (if 48 ≤ T a ∧ T a ≤ 57 then zdg T (L - (a + 1)) (a + 1) else a) = _
    rw [if_neg (q e)]
  · rw [show L - a = 0 by omega]; rfl
theorem zsb_not {T : Nat → Int} {L : Nat} : ∀ m a, a + m = L → zsb T L a < L → T (zsb T L a) ≠ 32 := by
  intro m
  induction m with
  | zero =>
    intro a ha h
    rw [zsb_n (by omega) (fun q => absurd q (by omega))] at h
    omega
  | succ m ih =>
    intro a ha
    by_cases q : T a = 32
    · rw [zsb_b (by omega) q]; exact ih (a + 1) (by omega)
    · rw [zsb_n (by omega) (fun _ => q)]; exact fun _ => q
/-- all as before but where the reader stands -/
def zsame (μ μ' : zM) : Prop := ∀ t i k, ¬ (t = 2 ∧ i = 0 ∧ (k = 3 ∨ k = 4)) → μ' t i k = μ t i k
theorem zsame_r (μ : zM) : zsame μ μ := fun _ _ _ _ => rfl
theorem zsame_t {a b c : zM} (h1 : zsame a b) (h2 : zsame b c) : zsame a c := fun t i k q => (h2 t i k q).trans (h1 t i k q)
theorem zsame_3 {a b : zM} (h : zsame a b) (v : Int) : zsame a (zset b 2 0 3 v) := fun t i k q => by rw [zo (by omega)]; exact h t i k q
theorem zsame_4 {a b : zM} (h : zsame a b) (v : Int) : zsame a (zset b 2 0 4 v) := fun t i k q => by rw [zo (by omega)]; exact h t i k q
theorem e_letter (d a L : Nat) (hL : L ≤ 240) (μ : zM) (e1 : μ 2 0 3 = (a : Int)) (e2 : μ 2 0 2 = (L : Int)) (K : Int → zM → Prop) (h : K (zlt (μ 20 0) L a) μ) : zC1 d m_X7_letter [zR 2 0] μ K := by
  unfold zlt at h
  refine k_X7_letter d μ K ?_
  rw [e1, e2, Int.toNat_natCast]
  by_cases q : a < L
  · rw [if_pos q] at h
    exact ⟨fun z => absurd z (by omega), fun _ => ⟨fun z => absurd z (by omega), fun _ => ⟨fun z => absurd z (by omega), fun _ => ⟨⟨by omega, by omega⟩, h⟩⟩⟩⟩
  · rw [if_neg q] at h
    exact ⟨fun z => absurd z (by omega), fun _ => ⟨fun _ => h, fun z => absurd z (by omega)⟩⟩
theorem e_skip (d a L : Nat) (hL : L ≤ 240) (ha : a ≤ L) (μ : zM) (e1 : μ 2 0 3 = (a : Int)) (e2 : μ 2 0 2 = (L : Int)) (K : zM → Prop) (h : ∀ μ', zsame μ μ' → μ' 2 0 3 = ((zsb (μ 20 0) L a : Nat) : Int) → μ' 2 0 4 = μ 2 0 4 → K μ') : zC0 (d + 1) m_X7_skipBlanks [zR 2 0] μ K := by
  refine k_X7_skipBlanks d μ K ?_
  have M : ∀ m x : Nat, x + m = L → zsb (μ 20 0) L x = zsb (μ 20 0) L a → ∀ μ', zsame μ μ' → μ' 2 0 3 = (x : Int) → μ' 2 0 4 = μ 2 0 4 → zJ (d + 1) m_X7_skipBlanks 0 [some (zR 2 0)] μ' (zQ0 K) := by
    intro m
    induction m with
    | zero =>
      intro x hx hz μ' hs h3 h4
      have f2 : μ' 2 0 2 = (L : Int) := by rw [hs _ _ _ (by omega)]; exact e2
      refine k_X7_skipBlanks_0 d μ' K ⟨fun _ => h μ' hs ?_ h4, fun q => absurd q (by omega)⟩
      rw [zsb_n (a := x) (by omega) (fun q => absurd q (by omega))] at hz
      rw [← hz]; exact h3
    | succ m ih =>
      intro x hx hz μ' hs h3 h4
      have f2 : μ' 2 0 2 = (L : Int) := by rw [hs _ _ _ (by omega)]; exact e2
      have fT : μ' 20 0 = μ 20 0 := funext fun k => hs _ _ _ (by omega)
      refine k_X7_skipBlanks_0 d μ' K ⟨fun q => absurd q (by omega), fun _ => e_letter d x L hL μ' h3 f2 _ ?_⟩
      unfold zlt
      rw [if_pos (by omega), fT]
      refine ⟨fun q => h μ' hs ?_ h4, fun q => ?_⟩
      · rw [zsb_n (a := x) (by omega) (fun _ => q)] at hz
        rw [← hz]; exact h3
      · rw [h3, z_fix (by omega) (by omega)]
        exact ih (x + 1) (by omega) (by rw [← zsb_b (by omega) (by omega)]; exact hz) _ (zsame_3 hs _) (zset_self _ _ _ _ _) (by rw [zo (by omega)]; exact h4)
  exact M (L - a) a (by omega) rfl μ (zsame_r μ) e1 rfl
/-- a fault is noted, if it is the first -/
def zfail (μ : zM) (f p : Nat) (μ' : zM) : Prop := (μ 2 0 5 = 0 → μ' = zset (zset μ 2 0 5 (f : Int)) 2 0 6 (p : Int)) ∧ (μ 2 0 5 ≠ 0 → μ' = μ)
theorem e_fail (d f p : Nat) (μ : zM) (K : zM → Prop) (h : ∀ μ', zfail μ f p μ' → K μ') : zC0 d m_X7_fail [zR 2 0, zI (f : Int), zI (p : Int)] μ K :=
  k_X7_fail d f p μ K ⟨fun q => h _ ⟨fun _ => rfl, fun z => absurd q z⟩, fun q => h _ ⟨fun z => absurd z q, fun _ => rfl⟩⟩
theorem e_expect (d a L : Nat) (sg : Int) (hL : L ≤ 240) (ha : a ≤ L) (μ : zM) (e1 : μ 2 0 3 = (a : Int)) (e2 : μ 2 0 2 = (L : Int)) (K : zM → Prop) (h1 : ∀ b μ', zPun (μ 20 0) L a sg = .inr b → zsame μ μ' → μ' 2 0 3 = (b : Int) → K μ') (h2 : ∀ f b μ1 μ', zPun (μ 20 0) L a sg = .inl (f, b) → zsame μ μ1 → μ1 2 0 3 = (b : Int) → zfail μ1 f b μ' → K μ') : zC0 (d + 2) m_X7_expect [zR 2 0, zI sg] μ K := by
  refine k_X7_expect (d + 1) sg μ K (e_skip d a L hL ha μ e1 e2 _ (fun μ1 hs h3 h4 => ?_))
  have hb := zsb_rg (μ 20 0) ha
  have f2 : μ1 2 0 2 = (L : Int) := by rw [hs _ _ _ (by omega)]; exact e2
  have fT : μ1 20 0 = μ 20 0 := funext fun k => hs _ _ _ (by omega)
  refine e_letter (d + 1) _ L hL μ1 h3 f2 _ ?_
  rw [fT, h3]
  unfold zPun at h1 h2
  refine ⟨fun q => e_fail (d + 1) 1 _ μ1 _ (fun μ' hf => h2 1 (zsb (μ 20 0) L a) μ1 μ' ?_ hs h3 hf), fun q => h1 (zsb (μ 20 0) L a + 1) _ ?_ (zsame_3 hs _) ?_⟩
  · rw [if_neg q]
  · rw [if_pos (Classical.byContradiction q)]
  · rw [zset_self, z_fix (by omega) (by omega)]
    rfl
theorem e_accept (d a L : Nat) (sg : Int) (hL : L ≤ 240) (ha : a ≤ L) (μ : zM) (e1 : μ 2 0 3 = (a : Int)) (e2 : μ 2 0 2 = (L : Int)) (K : Int → zM → Prop) (h1 : ∀ μ', zlt (μ 20 0) L (zsb (μ 20 0) L a) = sg → zsame μ μ' → μ' 2 0 3 = ((zsb (μ 20 0) L a + 1 : Nat) : Int) → K 1 μ') (h2 : ∀ μ', zlt (μ 20 0) L (zsb (μ 20 0) L a) ≠ sg → zsame μ μ' → μ' 2 0 3 = ((zsb (μ 20 0) L a : Nat) : Int) → K 0 μ') : zC1 (d + 2) m_X7_accept [zR 2 0, zI sg] μ K := by
  refine k_X7_accept (d + 1) sg μ K (e_skip d a L hL ha μ e1 e2 _ (fun μ1 hs h3 h4 => ?_))
  have hb := zsb_rg (μ 20 0) ha
  have f2 : μ1 2 0 2 = (L : Int) := by rw [hs _ _ _ (by omega)]; exact e2
  have fT : μ1 20 0 = μ 20 0 := funext fun k => hs _ _ _ (by omega)
  refine e_letter (d + 1) _ L hL μ1 h3 f2 _ ?_
  rw [fT, h3]
  refine ⟨fun q => ⟨Or.inr rfl, h1 _ q (zsame_3 hs _) ?_⟩, fun q => ⟨Or.inl rfl, h2 μ1 q hs h3⟩⟩
  rw [zset_self, z_fix (by omega) (by omega)]
  rfl
theorem e_isFigure (d : Nat) (c : Int) (μ : zM) (K : Int → zM → Prop) (h1 : 48 ≤ c ∧ c ≤ 57 → K 1 μ) (h0 : ¬ (48 ≤ c ∧ c ≤ 57) → K 0 μ) : zC1 d m_X7_isFigure [zI c] μ K :=
  k_X7_isFigure d c μ K ⟨fun q => ⟨Or.inl rfl, h0 (by omega)⟩, fun q => ⟨fun q2 => ⟨Or.inl rfl, h0 (by omega)⟩, fun q2 => ⟨Or.inr rfl, h1 (by omega)⟩⟩⟩
theorem zvv_rg {T : Nat → Int} {b : Nat} : ∀ j, j ≤ 3 → (∀ k, k < j → 48 ≤ T (b + k) ∧ T (b + k) ≤ 57) → 0 ≤ zvv T b j ∧ zvv T b j ≤ 999 ∧ (j ≤ 2 → zvv T b j ≤ 99) ∧ (j ≤ 1 → zvv T b j ≤ 9) ∧ (j = 0 → zvv T b j = 0)
  | 0, _, _ => by show (0 : Int) ≤ 0 ∧ (0 : Int) ≤ 999 ∧ (0 ≤ 2 → (0 : Int) ≤ 99) ∧ (0 ≤ 1 → (0 : Int) ≤ 9) ∧ (0 = 0 → (0 : Int) = 0); omega
  | j + 1, hj, h => by
    have ih := zvv_rg (T := T) (b := b) j (by omega) (fun k hk => h k (by omega))
    have := h j (by omega)
    rw [zvv_s]
    omega
theorem e_number (d a L : Nat) (most : Int) (hL : L ≤ 240) (ha : a ≤ L) (μ : zM) (e1 : μ 2 0 3 = (a : Int)) (e2 : μ 2 0 2 = (L : Int)) (K : Int → zM → Prop) (h1 : ∀ v e μ', zNum (μ 20 0) L a most = .inr (v, e) → zsame μ μ' → μ' 2 0 3 = (e : Int) → μ' 2 0 4 = ((zsb (μ 20 0) L a : Nat) : Int) → e ≤ L → K v μ') (h2 : ∀ f b v μ1 μ', zNum (μ 20 0) L a most = .inl (f, b) → zsame μ μ1 → (∃ e : Nat, μ1 2 0 3 = (e : Int) ∧ e ≤ L) → zfail μ1 f b μ' → K v μ') : zC1 (d + 2) m_X7_readNumber [zR 2 0, zI most] μ K := by
  refine k_X7_readNumber (d + 1) most μ K (e_skip d a L hL ha μ e1 e2 _ (fun μ1 hs1 h3 h4 => ?_))
  have hb := zsb_rg (μ 20 0) ha
  generalize hbb : zsb (μ 20 0) L a = b at *
  unfold zNum at h1 h2
  rw [hbb] at h1 h2
  rw [h3]
  have M : ∀ m x : Nat, x + m = L → b ≤ x → zsd (μ 20 0) L x = zsd (μ 20 0) L b → (∀ k, k < x - b → 48 ≤ (μ 20 0) (b + k) ∧ (μ 20 0) (b + k) ≤ 57) → ∀ (v : Int) μ', 0 ≤ v → v ≤ 1000 → (x ≤ b + 3 → v = zvv (μ 20 0) b (x - b)) → zsame μ μ' → μ' 2 0 3 = (x : Int) → μ' 2 0 4 = (b : Int) → zJ (d + 2) m_X7_readNumber 14 [some (zR 2 0), some (zI most), some (zI v)] μ' (zQ1 K) := by
    intro m
    induction m with
    | zero =>
      intro x hx hbx hz hk v μ' v0 v1 hv hs g3 g4
      have f2 : μ' 2 0 2 = (L : Int) := by rw [hs _ _ _ (by omega)]; exact e2
      rw [zsd_n (a := x) (by omega) (fun q => absurd q (by omega))] at hz
      rw [← hz] at h1 h2
      refine k_X7_readNumber_14 (d + 1) most v μ' K ⟨fun _ => ?_, fun q => absurd q (by omega)⟩
      rw [g3, g4, z_fix (by omega) (by omega)]
      refine ⟨fun q => ⟨fun q2 => e_fail _ 2 b μ' _ (fun μ2 hf => h2 2 b v μ' μ2 ?_ hs ⟨x, g3, by omega⟩ hf), fun q2 => ⟨fun q3 => h1 v x μ' ?_ hs g3 g4 (by omega), fun q3 => e_fail _ 2 b μ' _ (fun μ2 hf => h2 2 b v μ' μ2 ?_ hs ⟨x, g3, by omega⟩ hf)⟩⟩, fun q => e_fail _ 1 b μ' _ (fun μ2 hf => h2 1 b v μ' μ2 ?_ hs ⟨x, g3, by omega⟩ hf)⟩
      · rw [if_neg (by omega), if_pos (Or.inl (by omega))]
      · have := hv (by omega)
        rw [if_neg (by omega), if_neg (by omega), this]
      · have := hv (by omega)
        rw [if_neg (by omega), if_pos (Or.inr (by omega))]
      · rw [if_pos (by omega)]
    | succ m ih =>
      intro x hx hbx hz hk v μ' v0 v1 hv hs g3 g4
      have f2 : μ' 2 0 2 = (L : Int) := by rw [hs _ _ _ (by omega)]; exact e2
      have fT : μ' 20 0 = μ 20 0 := funext fun k => hs _ _ _ (by omega)
      refine k_X7_readNumber_14 (d + 1) most v μ' K ⟨fun q => absurd q (by omega), fun _ => e_letter _ x L hL μ' g3 f2 _ ?_⟩
      unfold zlt
      rw [if_pos (by omega), fT]
      refine e_isFigure _ _ μ' _ (fun q => ⟨fun z => absurd z (by decide), fun _ => e_letter _ x L hL μ' g3 f2 _ ?_⟩) (fun q => ⟨fun _ => ?_, fun z => absurd rfl z⟩)
      · unfold zlt
        rw [if_pos (by omega), fT, g3, z_fix (show (-2147483648 : Int) ≤ v * 10 by omega) (by omega), z_fix (show (-2147483648 : Int) ≤ v * 10 + (μ 20 0) x by omega) (by omega), z_fix (show (-2147483648 : Int) ≤ v * 10 + (μ 20 0) x - 48 by omega) (by omega), z_fix (show (-2147483648 : Int) ≤ (x : Int) + 1 by omega) (by omega)]
        have hk2 : ∀ k, k < x + 1 - b → 48 ≤ (μ 20 0) (b + k) ∧ (μ 20 0) (b + k) ≤ 57 := fun k hk2 => by
          by_cases e : k = x - b
          · subst e; rw [show b + (x - b) = x by omega]; exact q
          · exact hk k (by omega)
        have hm : 0 ≤ zmin 1000 (v * 10 + (μ 20 0) x - 48) ∧ zmin 1000 (v * 10 + (μ 20 0) x - 48) ≤ 1000 := by
          unfold zmin
          split <;> omega
        refine ih (x + 1) (by omega) (by omega) (by rw [← zsd_b (by omega) q]; exact hz) hk2 _ _ hm.1 hm.2 (fun q3 => ?_) (zsame_3 hs _) (zset_self _ _ _ _ _) (by rw [zo (by omega)]; exact g4)
        have hv2 := hv (by omega)
        have hr := zvv_rg (x + 1 - b) (by omega) hk2
        rw [show x + 1 - b = (x - b) + 1 by omega, zvv_s, show b + (x - b) = x by omega, ← hv2] at hr ⊢
        unfold zmin
        split <;> omega
      · rw [zsd_n (a := x) (by omega) (fun _ => q)] at hz
        rw [← hz] at h1 h2
        rw [g3, g4, z_fix (by omega) (by omega)]
        refine ⟨fun q => ⟨fun q2 => e_fail _ 2 b μ' _ (fun μ2 hf => h2 2 b v μ' μ2 ?_ hs ⟨x, g3, by omega⟩ hf), fun q2 => ⟨fun q3 => h1 v x μ' ?_ hs g3 g4 (by omega), fun q3 => e_fail _ 2 b μ' _ (fun μ2 hf => h2 2 b v μ' μ2 ?_ hs ⟨x, g3, by omega⟩ hf)⟩⟩, fun q => e_fail _ 1 b μ' _ (fun μ2 hf => h2 1 b v μ' μ2 ?_ hs ⟨x, g3, by omega⟩ hf)⟩
        · rw [if_neg (by omega), if_pos (Or.inl (by omega))]
        · have := hv (by omega)
          rw [if_neg (by omega), if_neg (by omega), this]
        · have := hv (by omega)
          rw [if_neg (by omega), if_pos (Or.inr (by omega))]
        · rw [if_pos (by omega)]
  exact M (L - b) b (by omega) (Nat.le_refl _) rfl (fun k hk => absurd hk (by omega)) 0 _ (by omega) (by omega) (fun _ => by rw [Nat.sub_self]; rfl) (zsame_4 hs1 _) (by rw [zo (by omega)]; exact h3) (zset_self _ _ _ _ _)
