/-! TOGETHER, both sides -/
theorem zhqT_iff (T : Nat → Nat → Nat → Bool) (w p : Nat) (h : Int) (x : Bool) : ∀ q, zhqT T w p h x q = true ↔ x = true ∨ ∃ y, y < q ∧ T w p y = true ∧ (((10 * p + y : Nat) : Int) = h ∨ ((10 * y + p : Nat) : Int) = h)
  | 0 => by
    show x = true ↔ _
    refine ⟨fun z => Or.inl z, fun z => ?_⟩
    rcases z with z | ⟨y, q, -⟩
    · exact z
    · omega
  | q + 1 => by
    rw [zhqT_s, Bool.or_eq_true, zhqT_iff T w p h x q, Bool.and_eq_true, Bool.or_eq_true, decide_eq_true_eq, decide_eq_true_eq]
    constructor
    · rintro ((z | ⟨y, a, b⟩) | ⟨a, b⟩)
      · exact Or.inl z
      · exact Or.inr ⟨y, by omega, b⟩
      · exact Or.inr ⟨q, by omega, a, b⟩
    · rintro (z | ⟨y, a, b, c⟩)
      · exact Or.inl (Or.inl z)
      · by_cases e : y = q
        · subst e; exact Or.inr ⟨b, c⟩
        · exact Or.inl (Or.inr ⟨y, by omega, b, c⟩)
theorem zhpT_iff (T : Nat → Nat → Nat → Bool) (nP w : Nat) (h : Int) (x : Bool) : ∀ p, zhpT T nP w h x p = true ↔ x = true ∨ ∃ u y, u < p ∧ y < nP ∧ T w u y = true ∧ (((10 * u + y : Nat) : Int) = h ∨ ((10 * y + u : Nat) : Int) = h)
  | 0 => by
    show x = true ↔ _
    refine ⟨fun z => Or.inl z, fun z => ?_⟩
    rcases z with z | ⟨u, y, q, -⟩
    · exact z
    · omega
  | p + 1 => by
    rw [zhpT_s, zhqT_iff, zhpT_iff T nP w h x p]
    constructor
    · rintro ((z | ⟨u, y, a, b⟩) | ⟨y, a, b⟩)
      · exact Or.inl z
      · exact Or.inr ⟨u, y, by omega, b⟩
      · exact Or.inr ⟨p, y, by omega, a, b⟩
    · rintro (z | ⟨u, y, a, b, c⟩)
      · exact Or.inl (Or.inl z)
      · by_cases e : u = p
        · subst e; exact Or.inr ⟨y, b, c⟩
        · exact Or.inl (Or.inr ⟨u, y, by omega, b, c⟩)
theorem zhwT_iff (T : Nat → Nat → Nat → Bool) (nP : Nat) (h : Int) : ∀ w, zhwT T nP h w = true ↔ ∃ v u y, v < w ∧ u < nP ∧ y < nP ∧ T v u y = true ∧ (((10 * u + y : Nat) : Int) = h ∨ ((10 * y + u : Nat) : Int) = h)
  | 0 => by
    show false = true ↔ _
    refine ⟨fun z => absurd z (by decide), fun ⟨v, u, y, q, _⟩ => ?_⟩
    omega
  | w + 1 => by
    rw [zhwT_s, zhpT_iff, zhwT_iff T nP h w]
    constructor
    · rintro (⟨v, u, y, a, b⟩ | ⟨u, y, a, b⟩)
      · exact ⟨v, u, y, by omega, b⟩
      · exact ⟨w, u, y, by omega, a, b⟩
    · rintro ⟨v, u, y, a, b, c⟩
      by_cases e : v = w
      · subst e; exact Or.inr ⟨u, y, b, c⟩
      · exact Or.inl ⟨v, u, y, by omega, b, c⟩
theorem zhwT_two (T : Nat → Nat → Nat → Bool) {nP p q : Nat} (hp5 : nP ≤ 5) (hp : p < nP) (hq : q < nP) (w : Nat) : zhwT T nP ((10 * p + q : Nat) : Int) w = true ↔ ∃ v, v < w ∧ (T v p q = true ∨ T v q p = true) := by
  rw [zhwT_iff]
  constructor
  · rintro ⟨v, u, y, a, b, c, d, e⟩
    refine ⟨v, a, ?_⟩
    rcases e with e | e
    · have h1 : u = p := by omega
      have h2 : y = q := by omega
      subst h1; subst h2; exact Or.inl d
    · have h1 : y = p := by omega
      have h2 : u = q := by omega
      subst h1; subst h2; exact Or.inr d
  · rintro ⟨v, a, d | d⟩
    · exact ⟨v, p, q, a, hp, hq, d, Or.inl rfl⟩
    · exact ⟨v, q, p, a, hq, hp, d, Or.inr rfl⟩
theorem s_atOneWall (d j p q nW : Nat) (hp : p < 5) (hq : q < 5) (hw6 : nW ≤ 6) (μ : zM) (e2 : μ 3 0 4 = (nW : Int)) (S : zST) (h1 : μ 16 j p = S 4 p) (h2 : μ 17 j p = S 5 p) (h3 : μ 16 j q = S 4 q) (h4 : μ 17 j q = S 5 q) (K : Int → zM → Prop) (kt : (∃ v, v < nW ∧ (zTT (fun w c => μ 14 0 (4 * w + c)) S v p q = true ∨ zTT (fun w c => μ 14 0 (4 * w + c)) S v q p = true)) → K 1 μ) (kf : (¬ ∃ v, v < nW ∧ (zTT (fun w c => μ 14 0 (4 * w + c)) S v p q = true ∨ zTT (fun w c => μ 14 0 (4 * w + c)) S v q p = true)) → K 0 μ) : zC1 (d + 3) m_X5_areAtOneWall [zR 4 j, zI (p : Int), zI (q : Int)] μ K := by
  refine k_X5_areAtOneWall (d + 2) j p q μ K ?_
  generalize hW : (fun w c => μ 14 0 (4 * w + c)) = W at kt kf
  have L : ∀ m w : Nat, w + m = nW → (∀ v, v < w → ¬ (zTT W S v p q = true ∨ zTT W S v q p = true)) → zJ (d + 3) m_X5_areAtOneWall 2 [some (zR 4 j), some (zI (p : Int)), some (zI (q : Int)), some (zI (w : Int))] μ (zQ1 K) := by
    intro m
    induction m with
    | zero =>
      intro w hw hn
      refine k_X5_areAtOneWall_2 (d + 2) j p q w μ K ⟨fun _ => ⟨Or.inl rfl, kf ?_⟩, fun z => absurd z (by omega)⟩
      rintro ⟨v, a, b⟩
      exact hn v (by omega) b
    | succ m ih =>
      intro w hw hn
      have nx : ¬ (zTT W S w p q = true ∨ zTT W S w q p = true) → zJ (d + 3) m_X5_areAtOneWall 2 [some (zR 4 j), some (zI (p : Int)), some (zI (q : Int)), some (zI (w32 ((w : Int) + 1)))] μ (zQ1 K) := by
        intro z
        rw [z_fix (by omega) (by omega)]
        refine ih (w + 1) (by omega) (fun v hv => ?_)
        by_cases e : v = w
        · subst e; exact z
        · exact hn v (by omega)
      have yes : (zTT W S w p q = true ∨ zTT W S w q p = true) → K 1 μ := fun z => kt ⟨w, by omega, z⟩
      unfold zTT at nx yes
      rw [Bool.and_eq_true, Bool.and_eq_true] at nx yes
      refine k_X5_areAtOneWall_2 (d + 2) j p q w μ K ⟨fun z => absurd z (by omega), fun _ => ?_⟩
      have A1 := s_isAtA d j p w hp (by omega) μ S h1 h2
      have A2 := s_isAtA d j q w hq (by omega) μ S h3 h4
      have B1 := s_isAtB d j p w hp (by omega) μ S h1 h2
      have B2 := s_isAtB d j q w hq (by omega) μ S h3 h4
      rw [hW] at A1 A2 B1 B2
      refine A1 _ ?_
      by_cases a1 : zTA W S w p = true
      · rw [if_pos a1]
        refine ⟨fun z => absurd z (by decide), fun _ => B2 _ ?_⟩
        by_cases b2 : zTB W S w q = true
        · rw [if_pos b2]
          exact ⟨fun z => absurd z (by decide), fun _ => ⟨Or.inr rfl, yes (Or.inl ⟨a1, b2⟩)⟩⟩
        · rw [if_neg b2]
          refine ⟨fun _ => A2 _ ?_, fun z => absurd rfl z⟩
          by_cases a2 : zTA W S w q = true
          · rw [if_pos a2]
            refine ⟨fun z => absurd z (by decide), fun _ => B1 _ ?_⟩
            by_cases b1 : zTB W S w p = true
            · rw [if_pos b1]
              exact ⟨fun z => absurd z (by decide), fun _ => ⟨Or.inr rfl, yes (Or.inr ⟨a2, b1⟩)⟩⟩
            · rw [if_neg b1]
              exact ⟨fun _ => nx (fun z => z.elim (fun y => b2 y.2) (fun y => b1 y.2)), fun z => absurd rfl z⟩
          · rw [if_neg a2]
            exact ⟨fun _ => nx (fun z => z.elim (fun y => b2 y.2) (fun y => a2 y.1)), fun z => absurd rfl z⟩
      · rw [if_neg a1]
        refine ⟨fun _ => A2 _ ?_, fun z => absurd rfl z⟩
        by_cases a2 : zTA W S w q = true
        · rw [if_pos a2]
          refine ⟨fun z => absurd z (by decide), fun _ => B1 _ ?_⟩
          by_cases b1 : zTB W S w p = true
          · rw [if_pos b1]
            exact ⟨fun z => absurd z (by decide), fun _ => ⟨Or.inr rfl, yes (Or.inr ⟨a2, b1⟩)⟩⟩
          · rw [if_neg b1]
            exact ⟨fun _ => nx (fun z => z.elim (fun y => a1 y.1) (fun y => b1 y.2)), fun z => absurd rfl z⟩
        · rw [if_neg a2]
          exact ⟨fun _ => nx (fun z => z.elim (fun y => a1 y.1) (fun y => a2 y.1)), fun z => absurd rfl z⟩
  exact L nW 0 (by omega) (fun v hv => absurd hv (by omega))
/-- where persons are behind an HOUR -/
theorem zhrS_45 {n : Nat} {B : Nat → Nat} {nP nW D : Nat} (P U : Nat → Int) (W : Nat → Nat → Int) (hp5 : nP ≤ 5) (hw6 : nW ≤ 6) {s : zST × Nat} (o : zOK n B nP s.1 s.2) (a k : Nat) (ha : a = 4 ∨ a = 5) : (zhrS P U B W n nP nW D s).1 a k = zwkS P U B s.1 nP a k := by
  have ok1 := zwkS_ok P U o nP (Nat.le_refl _)
  have hs : zgdS (zwkS P U B s.1 nP) s.2 (zwkS P U B s.1 nP, s.2) 0 := ⟨fun _ _ _ _ => rfl, ok1.2.1, Nat.le_refl _, Nat.le_refl _, ok1.2.2.2.1⟩
  have hg := (zmew_g (T := zTT W (zwkS P U B s.1 nP)) hp5 hs nW hw6).1 a k (by omega) (by omega)
  rw [← hg]
  show zdmS D n B (zuS (zmew (zTT W (zwkS P U B s.1 nP)) nP (zwkS P U B s.1 nP, s.2) nW).1 0 0 (s.1 0 0 + 1)) (s.1 0 0 + 1).toNat a k = _
  unfold zdmS
  split
  · exact zuS_o (by omega)
  · rw [zuS_o (by omega), zuS_o (by omega)]
theorem zTT_cg {W : Nat → Nat → Int} {S S' : zST} (h : ∀ a k, a = 4 ∨ a = 5 → S' a k = S a k) : zTT W S' = zTT W S := by
  funext w p q
  unfold zTT zTA zTB
  rw [h 4 p (by omega), h 5 p (by omega), h 4 q (by omega), h 5 q (by omega)]
def ztgF (F : zST × Nat → zST × Nat) (Q : zST × Nat → Bool) : Nat → zST × Nat → Nat → Int
  | 0, _, _ => -1
  | m + 1, s, i => if Q s = true then (i : Int) else ztgF F Q m (F s) (i + 1)
theorem ztgF_s (F : zST × Nat → zST × Nat) (Q : zST × Nat → Bool) (m : Nat) (s : zST × Nat) (i : Nat) : ztgF F Q (m + 1) s i = if Q s = true then (i : Int) else ztgF F Q m (F s) (i + 1) := rfl
/-- do they meet in the HOUR that goes from s? -/
def zqtg (P U : Nat → Int) (B : Nat → Nat) (W : Nat → Nat → Int) (nP nW p q : Nat) (s : zST × Nat) : Bool := zhwT (zTT W (zwkS P U B s.1 nP)) nP ((10 * p + q : Nat) : Int) nW
theorem s_ctog (p q n nP nW D : Nat) (hp : p < nP) (hq : q < nP) (hp5 : nP ≤ 5) (hw6 : nW ≤ 6) (hD : D ≤ 99) (μ : zM) {B : Nat → Nat} (hH : zHc μ n B) (e1 : μ 3 0 3 = (nP : Int)) (e2 : μ 3 0 4 = (nW : Int)) (e3 : μ 3 0 1 = (D : Int)) (r : Int) (K : Int → zM → Prop) (hK : ∀ μ2, (∀ t i k, ¬ (zlv t ∧ i = 1) → μ2 t i k = μ t i k) → K r μ2) : ∀ m i : Nat, i + m = 201 → ∀ (μ' : zM) (s : zST × Nat), zLC μ' nP 1 s.1 s.2 → (∀ t i k, ¬ (zlv t ∧ i = 1) → μ' t i k = μ t i k) → zOK n B nP s.1 s.2 → s.1 0 0 + m ≤ 91000 → ztgF (zhrS (μ 11 0) (μ 12 0) B (fun w c => μ 14 0 (4 * w + c)) n nP nW D) (zqtg (μ 11 0) (μ 12 0) B (fun w c => μ 14 0 (4 * w + c)) nP nW p q) m s i = r → zJ 8 m_X11_together 43 [some (zR 1 0), some (zI (p : Int)), some (zI (q : Int)), some (zI (i : Int))] μ' (zQ1 K) := by
  have hB : ∀ r, r < n → 1 ≤ B r ∧ B r ≤ 12 := fun r hr => ⟨(hH.2.2.1 r hr).2.1, (hH.2.2.1 r hr).2.2⟩
  intro m
  induction m with
  | zero =>
    intro i hi μ' s hl hf o hb hr
    have hr2 : (-1 : Int) = r := hr
    subst hr2
    exact k_X11_together_43 7 p q i μ' K ⟨fun _ => hK μ' hf, fun z => absurd z (by omega)⟩
  | succ m ih =>
    intro i hi μ' s hl hf o hb hr
    have g : ∀ t k, t = 3 ∨ 10 ≤ t ∧ t ≤ 14 → μ' t 0 k = μ t 0 k := fun t k z => hf _ _ _ (by omega)
    refine k_X11_together_43 7 p q i μ' K ⟨fun z => absurd z (by omega), fun _ => s_anHour 3 1 n nP nW D hp5 hw6 μ' (zHc_cg g hH) (by rw [g _ _ (by omega)]; exact e1) (by rw [g _ _ (by omega)]; exact e2) (by rw [g _ _ (by omega)]; exact e3) hD o (by omega) hl _ (fun μ2 hl2 hf2 => ?_)⟩
    have q11 : μ' 11 0 = μ 11 0 := funext fun k => g _ _ (by omega)
    have q12 : μ' 12 0 = μ 12 0 := funext fun k => g _ _ (by omega)
    have q14 : (fun w c => μ' 14 0 (4 * w + c)) = (fun w c => μ 14 0 (4 * w + c)) := by funext a b; exact g _ _ (by omega)
    have hf3 : ∀ t i k, ¬ (zlv t ∧ i = 1) → μ2 t i k = μ t i k := fun t i k z => (hf2 t i k z).trans (hf t i k z)
    have r14 : (fun w c => μ2 14 0 (4 * w + c)) = (fun w c => μ 14 0 (4 * w + c)) := by funext a b; exact hf3 _ _ _ (by unfold zlv; omega)
    rw [q11, q12, q14] at hl2
    have hk := zhrS_ok (nW := nW) (D := D) (μ 11 0) (μ 12 0) (fun w c => μ 14 0 (4 * w + c)) hp5 hw6 hH.2.1 hB o (by omega)
    have h45 := zhrS_45 (nW := nW) (D := D) (μ 11 0) (μ 12 0) (fun w c => μ 14 0 (4 * w + c)) hp5 hw6 o
    rw [show (s.1, s.2) = s from rfl] at hk hl2
    rw [ztgF_s] at hr
    have two := zhwT_two (zTT (fun w c => μ 14 0 (4 * w + c)) (zwkS (μ 11 0) (μ 12 0) B s.1 nP)) hp5 hp hq nW
    rw [← zTT_cg h45] at two
    have hQ : zqtg (μ 11 0) (μ 12 0) B (fun w c => μ 14 0 (4 * w + c)) nP nW p q s = zhwT (zTT (fun w c => μ 14 0 (4 * w + c)) (zhrS (μ 11 0) (μ 12 0) B (fun w c => μ 14 0 (4 * w + c)) n nP nW D s).1) nP ((10 * p + q : Nat) : Int) nW := by
      rw [zTT_cg h45]; rfl
    rw [hQ] at hr
    generalize zhrS (μ 11 0) (μ 12 0) B (fun w c => μ 14 0 (4 * w + c)) n nP nW D s = s' at hk hl2 hr two
    have f4 : μ2 3 0 4 = (nW : Int) := by rw [hf3 _ _ _ (by unfold zlv; omega)]; exact e2
    refine s_atOneWall 4 1 p q nW (by omega) (by omega) hw6 μ2 f4 s'.1 (hl2.2.2.2.2.1 p hp).1 (hl2.2.2.2.2.1 p hp).2.1 (hl2.2.2.2.2.1 q hq).1 (hl2.2.2.2.2.1 q hq).2.1 _ (fun z => ?_) (fun z => ?_)
    · rw [r14] at z
      rw [if_pos (two.mpr z)] at hr
      subst hr
      exact ⟨fun z => absurd z (by decide), fun _ => hK μ2 hf3⟩
    · rw [r14] at z
      rw [if_neg (fun y => z (two.mp y))] at hr
      rw [z_fix (by omega) (by omega)]
      exact ⟨fun _ => ih (i + 1) (by omega) μ2 s' hl2 hf3 hk.1 (by have := hk.2.1; omega) hr, fun z => absurd rfl z⟩
theorem s_mtog (p q n nP nW D : Nat) (hp : p < nP) (hq : q < nP) (hp5 : nP ≤ 5) (hw6 : nW ≤ 6) (hD : D ≤ 99) (μ : zM) {B : Nat → Nat} (hO : zHs μ n B nP nW) (e3 : μ 3 0 1 = (D : Int)) (r : Int) (K : Int → zM → Prop) (hK : ∀ μ2, (∀ t i k, ¬ (t = 34 ∧ i = 1) → ¬ (t = 9 ∧ k = 24) → μ2 t i k = μ t i k) → K r μ2) : ∀ m i : Nat, i + m = 201 → ∀ (μ' : zM) (s : zST × Nat), zLN μ' nP 34 1 0 s.1 s.2 → (∀ t i k, ¬ (t = 34 ∧ i = 1) → ¬ (t = 9 ∧ k = 24) → μ' t i k = μ t i k) → zOK n B nP s.1 s.2 → s.1 0 0 + m ≤ 91000 → ztgF (zhrS (μ 11 0) (μ 12 0) B (fun w c => μ 14 0 (4 * w + c)) n nP nW D) (zqtg (μ 11 0) (μ 12 0) B (fun w c => μ 14 0 (4 * w + c)) nP nW p q) m s i = r → zJ 8 m_X12_together 30 [some (zR 9 0), some (zI (p : Int)), some (zI (q : Int)), some (zI (i : Int)), none] μ' (zQ1 K) := by
  have hH := hO.1
  have hB : ∀ r, r < n → 1 ≤ B r ∧ B r ≤ 12 := fun r hr => ⟨(hH.2.2.1 r hr).2.1, (hH.2.2.1 r hr).2.2⟩
  intro m
  induction m with
  | zero =>
    intro i hi μ' s hl hf o hb hr
    have hr2 : (-1 : Int) = r := hr
    subst hr2
    exact k_X12_together_30 7 p q i μ' K ⟨fun _ => hK μ' hf, fun z => absurd z (by omega)⟩
  | succ m ih =>
    intro i hi μ' s hl hf o hb hr
    have g : ∀ t k, t = 3 ∨ 10 ≤ t ∧ t ≤ 14 → μ' t 0 k = μ t 0 k := fun t k z => hf _ _ _ (by omega) (by omega)
    refine k_X12_together_30 7 p q i μ' K ⟨fun z => absurd z (by omega), fun _ => ?_⟩
    rw [show w32 (w32 (10 * (p : Int)) + (q : Int)) = ((10 * p + q : Nat) : Int) by rw [z_fix (show (-2147483648 : Int) ≤ 10 * (p : Int) by omega) (by omega), z_fix (by omega) (by omega)]; omega]
    refine s_hourGoes 4 1 n nP nW D _ hp5 hw6 μ' (zHs_cg g (fun k => hf _ _ _ (by omega) (by omega)) hO) (by rw [g _ _ (by omega)]; exact e3) hD o (by omega) hl _ (fun μ2 hl2 hb2 hf2 => ?_)
    have q11 : μ' 11 0 = μ 11 0 := funext fun k => g _ _ (by omega)
    have q12 : μ' 12 0 = μ 12 0 := funext fun k => g _ _ (by omega)
    have q14 : (fun w c => μ' 14 0 (4 * w + c)) = (fun w c => μ 14 0 (4 * w + c)) := by funext a b; exact g _ _ (by omega)
    have hf3 : ∀ t i k, ¬ (t = 34 ∧ i = 1) → ¬ (t = 9 ∧ k = 24) → μ2 t i k = μ t i k := fun t i k z1 z2 => (hf2 t i k z1 z2).trans (hf t i k z1 z2)
    rw [q11, q12, q14] at hl2 hb2
    have hk := zhrS_ok (nW := nW) (D := D) (μ 11 0) (μ 12 0) (fun w c => μ 14 0 (4 * w + c)) hp5 hw6 hH.2.1 hB o (by omega)
    rw [show (s.1, s.2) = s from rfl] at hk hl2
    rw [ztgF_s] at hr
    have hQ : zqtg (μ 11 0) (μ 12 0) B (fun w c => μ 14 0 (4 * w + c)) nP nW p q s = zhwT (zTT (fun w c => μ 14 0 (4 * w + c)) (zwkS (μ 11 0) (μ 12 0) B s.1 nP)) nP ((10 * p + q : Nat) : Int) nW := rfl
    rw [hQ] at hr
    rw [hb2]
    by_cases z : zhwT (zTT (fun w c => μ 14 0 (4 * w + c)) (zwkS (μ 11 0) (μ 12 0) B s.1 nP)) nP ((10 * p + q : Nat) : Int) nW = true
    · rw [if_pos z] at hr ⊢
      subst hr
      exact ⟨fun z => absurd z (by decide), fun _ => hK μ2 hf3⟩
    · rw [if_neg z] at hr ⊢
      rw [z_fix (by omega) (by omega)]
      exact ⟨fun _ => ih (i + 1) (by omega) μ2 _ hl2 hf3 hk.1 (by have := hk.2.1; omega) hr, fun z => absurd rfl z⟩
theorem q_together (μ : zM) (hR : zRel μ) (a b : Int) : zAsk m_X11_together m_X12_together [zI a, zI b] μ := by
  have hR0 := hR
  obtain ⟨n, B, nP, nW, S, M, N, X, PS, c, hO, hC, hM, hD⟩ := zRel_to hR
  have hp5 := zHO_5 hO
  have hHc := hO.1.1
  have u6 := hO.1.2.2.2.2.2.1
  have hP1 := hO.1.2.2.2.2.2.2.2.1.1
  have hPm := hO.1.2.2.2.2.2.2.2.1.2.1
  have hW1 := hO.1.2.2.2.2.2.2.2.2.2.1.1
  have hw6 := hO.1.2.2.2.2.2.2.2.2.2.1.2.2.1
  have hD3 := hD.2.2.1
  obtain ⟨D, hDe⟩ := Int.eq_ofNat_of_zero_le u6.2.1
  have one : (1 : Int) ≠ 0 := by decide
  refine k_X11_together 7 a b μ _ (s_hasPerson _ 0 a μ _ (fun q1 q2 => ⟨fun z => absurd z one, fun _ => s_hasPerson _ 0 b μ _ (fun q3 q4 => ⟨fun z => absurd z one, fun _ => ⟨fun q5 => s_become 5 1 0 (by omega) μ _ (fun μ1 hb => ?_), fun q5 => ?_⟩⟩) (fun q => ⟨fun _ => ?_, fun z => absurd rfl z⟩)⟩) (fun q => ⟨fun _ => ?_, fun z => absurd rfl z⟩))
  · rw [hP1] at q2 q4
    obtain ⟨p, rfl⟩ := Int.eq_ofNat_of_zero_le q1
    obtain ⟨q, rfl⟩ := Int.eq_ofNat_of_zero_le q3
    have hp : p < nP := by omega
    have hq : q < nP := by omega
    have hf1 := hb.2.2.2.2
    have hl1 := zbec_lc hp5 hb hC.1
    generalize hr : ztgF (zhrS (μ 11 0) (μ 12 0) B (fun w c => μ 14 0 (4 * w + c)) n nP nW D) (zqtg (μ 11 0) (μ 12 0) B (fun w c => μ 14 0 (4 * w + c)) nP nW p q) 200 (S, M) 1 = r
    refine s_ctog p q n nP nW D hp hq hp5 hw6 (by omega) μ hHc hP1 hW1 hDe r _ (fun μ2 hf2 => ?_) 200 1 (by omega) μ1 (S, M) hl1 (fun t i k z => hf1 t i k z) hD.1 (by show S 0 0 + ((200 : Nat) : Int) ≤ 91000; omega) hr
    have kp : zkp μ μ2 := fun t i k q => hf2 t i k (fun z => q (by unfold zlv at z; unfold zsc; omega))
    have hO1 : zHs μ2 n B nP nW := zkp_hs kp hO.1
    have hl34 : zLN μ2 nP 34 0 0 S M := zLN_cg hp5 (fun k _ => kp _ _ _ (by unfold zsc; omega)) hM.1
    have g : ∀ t k, t = 3 ∨ 10 ≤ t ∧ t ≤ 14 → μ2 t 0 k = μ t 0 k := fun t k z => kp _ _ _ (by unfold zsc; omega)
    have q11 : μ2 11 0 = μ 11 0 := funext fun k => g _ _ (by omega)
    have q12 : μ2 12 0 = μ 12 0 := funext fun k => g _ _ (by omega)
    have q14 : (fun w c => μ2 14 0 (4 * w + c)) = (fun w c => μ 14 0 (4 * w + c)) := by funext a b; exact g _ _ (by omega)
    have hPm2 := hO1.2.2.2.2.2.2.2.1.2.1
    refine k_X12_together 7 p q μ2 _ (s_isPerson 6 p μ2 hPm2 hp5 _ (fun p' h1 h2 => ⟨fun z => absurd z one, fun _ => s_isPerson 6 q μ2 hPm2 hp5 _ (fun q' h3 h4 => ⟨fun z => absurd z one, fun _ => ⟨fun _ => s_layAside 6 μ2 hp5 hl34 _ (fun μ3 hl3 hf3 => ?_), fun z => absurd q5 z⟩⟩) (fun z => absurd z (by omega))⟩) (fun z => absurd z (by omega)))
    refine s_mtog p q n nP nW D hp hq hp5 hw6 (by omega) μ2 hO1 (by rw [g _ _ (by omega)]; exact hDe) r _ (fun μ4 hf4 => ⟨rfl, ?_⟩) 200 1 (by omega) μ3 (S, M) hl3 (fun t i k z1 _ => hf3 t i k z1) hD.1 (by show S 0 0 + ((200 : Nat) : Int) ≤ 91000; omega) ?_
    · rw [q11, q12, q14]; exact hr
    · exact zkp_rel (zkp_t kp (fun t i k q => hf4 t i k (fun z => q (by unfold zsc; omega)) (fun z => q (by unfold zsc; omega)))) hR0
  · exact k_X12_together 7 a b μ _ (s_isPerson 6 a μ hPm hp5 _ (fun p h1 h2 => ⟨fun z => absurd z one, fun _ => s_isPerson 6 b μ hPm hp5 _ (fun p' h3 h4 => ⟨fun z => absurd z one, fun _ => ⟨fun z => absurd z q5, fun _ => ⟨rfl, hR0⟩⟩⟩) (fun z => absurd z (by omega))⟩) (fun z => absurd z (by omega)))
  · exact k_X12_together 7 a b μ _ (s_isPerson 6 a μ hPm hp5 _ (fun p h1 h2 => ⟨fun z => absurd z one, fun _ => s_isPerson 6 b μ hPm hp5 _ (fun p' h3 h4 => absurd q (by omega)) (fun _ => ⟨fun _ => ⟨rfl, hR0⟩, fun z => absurd rfl z⟩)⟩) (fun z => absurd z (by omega)))
  · exact k_X12_together 7 a b μ _ (s_isPerson 6 a μ hPm hp5 _ (fun p h1 h2 => absurd q (by omega)) (fun _ => ⟨fun _ => ⟨rfl, hR0⟩, fun z => absurd rfl z⟩))
