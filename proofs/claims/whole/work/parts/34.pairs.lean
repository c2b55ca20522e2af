/-! SPECS: pairs of ROOMS, sets counted (class) -/
def zpct (s : Int) : Int := zSm (fun b => if zbit s b = true then 1 else 0) 12
def zbc1 (a : Int) : Int := w32 (a - (zand (zushr a 1) 1431655765))
def zbc2 (a : Int) : Int := w32 ((zand a 858993459) + (zand (zushr a 2) 858993459))
def zbc3 (a : Int) : Int := zand (w32 (a + (zushr a 4))) 252645135
def zbc4 (a : Int) : Int := w32 (a + (zushr a 8))
def zbc5 (a : Int) : Int := w32 (a + (zushr a 16))
def zbc (a : Int) : Int := zand (zbc5 (zbc4 (zbc3 (zbc2 (zbc1 a))))) 63
theorem zbc_D : ∀ x : Nat, x < 64 → ∀ y : Nat, y < 64 → zbc ((64 * x + y : Nat) : Int) = zpct ((64 * x + y : Nat) : Int) := by decide +kernel
theorem zbc_ok {s : Int} (h : zset12 s) : zbc s = zpct s := by
  obtain ⟨n, rfl⟩ := Int.eq_ofNat_of_zero_le h.1
  have hn : n < 4096 := by have := h.2; omega
  have e := zbc_D (n / 64) (by omega) (n % 64) (by omega)
  rw [show 64 * (n / 64) + n % 64 = n by omega] at e
  exact e
theorem zpct_rg (s : Int) : 0 ≤ zpct s ∧ zpct s ≤ 12 := by
  have := zSm_rg (f := fun b => if zbit s b = true then (1 : Int) else 0) (m := 1) (n := 12) (fun b _ => by by_cases q : zbit s b = true <;> simp [q])
  unfold zpct; omega
theorem s_bitCount (d : Nat) (s : Int) (hs : zset12 s) (μ : zM) (K : Int → zM → Prop) (h : K (zpct s) μ) : zC1 d m_J6_bitCount_0f7a4 [zI s] μ K := by
  rw [← zbc_ok hs] at h
  exact k_J6_bitCount_0f7a4 d s μ K h
theorem s_liftedInAll (d j : Nat) (μ : zM) {n : Nat} {B : Nat → Nat} (hH : zHc μ n B) (hL : zLc μ j) (K : Int → zM → Prop) (h : K (zSm (fun r => zpct (μ 15 j r)) n) μ) : zC1 (d + 2) m_X3_liftedInAll [zR 4 j] μ K := by
  obtain ⟨e1, e2, e3, -⟩ := hH
  refine k_X3_liftedInAll (d + 1) j μ K ?_
  have L : ∀ m i : Nat, i + m = n → zJ (d + 2) m_X3_liftedInAll 4 [some (zR 4 j), some (zI (zSm (fun r => zpct (μ 15 j r)) i)), some (zI (i : Int))] μ (zQ1 K) := by
    intro m
    induction m with
    | zero =>
      intro i hi
      refine k_X3_liftedInAll_4 (d + 1) j _ i μ K ⟨fun _ => ?_, fun q => absurd q (by omega)⟩
      rw [show i = n by omega]
      exact h
    | succ m ih =>
      intro i hi
      have h1 := zSm_rg (f := fun r => zpct (μ 15 j r)) (m := 12) (n := i) (fun r _ => zpct_rg _)
      have h2 := zpct_rg (μ 15 j i)
      refine k_X3_liftedInAll_4 (d + 1) j _ i μ K ⟨fun q => absurd q (by omega), fun _ => s_liftedIn d j i (by omega) μ _ (s_bitCount (d + 1) _ (hL i (by omega)) μ _ ?_)⟩
      rw [z_fix (by omega) (by omega), z_fix (by omega) (by omega)]
      exact ih (i + 1) (by omega)
  exact L n 0 (by omega)
/-- the ends: the last n of f (of a) are as the first n of g -/
def zend (f g : Nat → Int) (a n : Nat) : Bool := zal2 (fun b => decide (f (a - n + b) = g b)) n
theorem s_endsAsBegins (d j r t k : Nat) (μ : zM) {n : Nat} {B : Nat → Nat} (hH : zHc μ n B) (hr : r < n) (ht : t < n) (hk : k ≤ B r) (hk2 : k ≤ B t) (hL : zLc μ j) (K : Int → zM → Prop) (h : K (if zend (rC μ j r) (rC μ j t) (B r) k = true then 1 else 0) μ) : zC1 (d + 3) m_X8_endsAsBegins [zR 4 j, zI (r : Int), zI (t : Int), zI (k : Int)] μ K := by
  have hH0 := hH
  obtain ⟨e1, e2, e3, -⟩ := hH
  obtain ⟨g1, g2, g3⟩ := e3 r hr
  have g4 := (e3 t ht).2.2
  refine k_X8_endsAsBegins (d + 2) j r t k μ K (s_barsOf (d + 1) 0 r (by omega) μ _ ?_)
  rw [g1, z_fix (by omega) (by omega), show (B r : Int) - (k : Int) = ((B r - k : Nat) : Int) by omega]
  have L : ∀ m i : Nat, i + m = k → zal2 (fun b => decide (rC μ j r (B r - k + b) = rC μ j t b)) i = true → zJ (d + 3) m_X8_endsAsBegins 15 [some (zR 4 j), some (zI (r : Int)), some (zI (t : Int)), some (zI (k : Int)), some (zI ((B r - k : Nat) : Int)), some (zI (i : Int))] μ (zQ1 K) := by
    intro m
    induction m with
    | zero =>
      intro i hi ha
      refine k_X8_endsAsBegins_15 (d + 2) j r t k _ i μ K ⟨fun _ => ⟨Or.inr rfl, ?_⟩, fun q => absurd q (by omega)⟩
      rw [show i = k by omega] at ha
      unfold zend at h
      rw [if_pos ha] at h
      exact h
    | succ m ih =>
      intro i hi ha
      refine k_X8_endsAsBegins_15 (d + 2) j r t k _ i μ K ⟨fun q => absurd q (by omega), fun _ => ?_⟩
      rw [z_fix (by omega) (by omega), show ((B r - k : Nat) : Int) + (i : Int) = ((B r - k + i : Nat) : Int) by omega]
      refine s_reads d j r _ (by omega) (by omega) μ hL _ (s_reads d j t i (by omega) (by omega) μ hL _ ⟨fun q => ?_, fun q => ⟨Or.inl rfl, ?_⟩⟩)
      · rw [z_fix (by omega) (by omega)]
        refine ih (i + 1) (by omega) ?_
        rw [zal2_s, ha]
        simpa using q
      · have := zal2_no (g := fun b => decide (rC μ j r (B r - k + b) = rC μ j t b)) (i := i) (by simpa using q) (n := k) (by omega)
        unfold zend at h
        rw [this] at h
        exact h
  exact L k 0 (by omega) rfl
/-- the JOIN -/
def zjoin (f g : Nat → Int) (a b : Nat) : Nat := zdow (zend f g a) (if b < a then b else a)
theorem s_sharedEnd (d j r t : Nat) (μ : zM) {n : Nat} {B : Nat → Nat} (hH : zHc μ n B) (hr : r < n) (ht : t < n) (hL : zLc μ j) (K : Int → zM → Prop) (h : K (zjoin (rC μ j r) (rC μ j t) (B r) (B t)) μ) : zC1 (d + 4) m_X8_sharedEnd [zR 4 j, zI (r : Int), zI (t : Int)] μ K := by
  have hH0 := hH
  obtain ⟨e1, e2, e3, -⟩ := hH
  obtain ⟨g1, g2, g3⟩ := e3 r hr
  obtain ⟨g4, g5, g6⟩ := e3 t ht
  refine k_X8_sharedEnd (d + 3) j r t μ K (s_barsOf (d + 2) 0 r (by omega) μ _ ?_)
  rw [g1]
  refine s_barsOf (d + 2) 0 t (by omega) μ _ ?_
  rw [g4]
  have e : zmin (B r : Int) (B t : Int) = ((if B t < B r then B t else B r : Nat) : Int) := by
    unfold zmin
    by_cases q : B t < B r
    · rw [if_pos q, if_pos (by omega)]
    · rw [if_neg q, if_neg (by omega)]
  rw [e]
  have hm : (if B t < B r then B t else B r) ≤ B r ∧ (if B t < B r then B t else B r) ≤ B t := by split <;> omega
  unfold zjoin at h
  generalize (if B t < B r then B t else B r) = x at h hm ⊢
  have L : ∀ i : Nat, i ≤ x → zdow (zend (rC μ j r) (rC μ j t) (B r)) x = zdow (zend (rC μ j r) (rC μ j t) (B r)) i → zJ (d + 4) m_X8_sharedEnd 23 [some (zR 4 j), some (zI (r : Int)), some (zI (t : Int)), none, some (zI (i : Int))] μ (zQ1 K) := by
    intro i
    induction i with
    | zero =>
      intro _ ha
      refine k_X8_sharedEnd_23 (d + 3) j r t _ μ K ⟨fun _ => ?_, fun q => absurd q (by omega)⟩
      rw [ha] at h
      exact h
    | succ i ih =>
      intro hi ha
      refine k_X8_sharedEnd_23 (d + 3) j r t _ μ K ⟨fun q => absurd q (by omega), fun _ => s_endsAsBegins d j r t (i + 1) μ hH0 hr ht (by omega) (by omega) hL _ ?_⟩
      rw [zdow_s] at ha
      by_cases q : zend (rC μ j r) (rC μ j t) (B r) (i + 1) = true
      · rw [if_pos q] at ha ⊢
        refine ⟨fun z => absurd z (by decide), fun _ => ?_⟩
        rw [ha] at h
        exact h
      · rw [if_neg q] at ha ⊢
        refine ⟨fun _ => ?_, fun z => absurd rfl z⟩
        rw [z_fix (by omega) (by omega), show ((i + 1 : Nat) : Int) + -1 = (i : Int) by omega]
        exact ih (by omega) ha
  exact L x (Nat.le_refl _) rfl
/-- how far two KEYS are -/
def zaw (a b : Int) : Int := if 12 - (if 0 ≤ a - b then a - b else b - a) < (if 0 ≤ a - b then a - b else b - a) then 12 - (if 0 ≤ a - b then a - b else b - a) else (if 0 ≤ a - b then a - b else b - a)
theorem s_between (d : Nat) (a b : Int) (ha : 0 ≤ a ∧ a < 12) (hb : 0 ≤ b ∧ b < 12) (μ : zM) (K : Int → zM → Prop) (h : K (zaw a b) μ) : zC1 (d + 1) m_X8_between [zI a, zI b] μ K := by
  refine k_X8_between d a b μ K ?_
  have e : zmin (zabs (w32 (a - b))) (w32 (12 - (zabs (w32 (a - b))))) = zaw a b := by
    have h1 : w32 (a - b) = a - b := z_fix (by omega) (by omega)
    have h2 : zabs (a - b) = if 0 ≤ a - b then a - b else b - a := by
      unfold zabs
      split
      · rfl
      · rw [z_fix (by omega) (by omega)]; omega
    rw [h1, h2]
    unfold zmin zaw
    generalize hx : (if 0 ≤ a - b then a - b else b - a) = x
    have h3 : 0 ≤ x ∧ x < 12 := by rw [← hx]; split <;> omega
    rw [show w32 (12 - x) = 12 - x from z_fix (by omega) (by omega)]
  rw [e]; exact h
theorem zkey_rg (f : Nat → Int) (n : Nat) : 0 ≤ zkey f n ∧ zkey f n < 12 := by unfold zkey; omega
theorem zaw_rg {a b : Int} (ha : 0 ≤ a ∧ a < 12) (hb : 0 ≤ b ∧ b < 12) : 0 ≤ zaw a b ∧ zaw a b ≤ 6 := by
  unfold zaw
  split <;> split <;> omega
/-- the NEAREST: state (best, how far) -/
def znear (k : Nat → Int) (r : Nat) : Nat → Int × Int
  | 0 => (-1, 12)
  | i + 1 => if i = r then znear k r i else if zaw (k r) (k i) ≥ (znear k r i).2 then znear k r i else ((i : Int), zaw (k r) (k i))
theorem znear_s (k : Nat → Int) (r i : Nat) : znear k r (i + 1) = if i = r then znear k r i else if zaw (k r) (k i) ≥ (znear k r i).2 then znear k r i else ((i : Int), zaw (k r) (k i)) := rfl
abbrev kC (μ : zM) (j : Nat) (B : Nat → Nat) (r : Nat) : Int := zkey (rC μ j r) (B r)
theorem s_nearestRoom (d j r : Nat) (μ : zM) {n : Nat} {B : Nat → Nat} (hH : zHc μ n B) (hr : r < n) (hL : zLc μ j) (K : Int → zM → Prop) (h : K (znear (kC μ j B) r n).1 μ) : zC1 (d + 4) m_X8_nearestRoom [zR 4 j, zI (r : Int)] μ K := by
  have hH0 := hH
  obtain ⟨e1, e2, e3, -⟩ := hH
  refine k_X8_nearestRoom (d + 3) j r μ K (s_keyOf d j r μ hH0 hr hL _ ?_)
  have L : ∀ m i : Nat, i + m = n → zJ (d + 4) m_X8_nearestRoom 15 [some (zR 4 j), some (zI (r : Int)), some (zI (kC μ j B r)), some (zI (znear (kC μ j B) r i).1), some (zI (znear (kC μ j B) r i).2), some (zI (i : Int)), none] μ (zQ1 K) := by
    intro m
    induction m with
    | zero =>
      intro i hi
      refine k_X8_nearestRoom_15 (d + 3) j r _ _ _ i μ K ⟨fun _ => ?_, fun q => absurd q (by omega)⟩
      rw [show i = n by omega]
      exact h
    | succ m ih =>
      intro i hi
      refine k_X8_nearestRoom_15 (d + 3) j r _ _ _ i μ K ⟨fun q => absurd q (by omega), fun _ => s_keyOf d j i μ hH0 (by omega) hL _ (s_between (d + 2) _ _ (zkey_rg _ _) (zkey_rg _ _) μ _ ?_)⟩
      have e := ih (i + 1) (by omega)
      rw [z_fix (by omega) (by omega)]
      rw [znear_s] at e
      refine ⟨fun q => ?_, fun q => ⟨fun q2 => ?_, fun q2 => ?_⟩⟩
      · rw [if_pos (by omega)] at e; exact e
      · rw [if_neg (by omega), if_pos q2] at e; exact e
      · rw [if_neg (by omega), if_neg q2] at e; exact e
  exact L n 0 (by omega)
/-- from a set of ROOMS, one step on -/
def zstp1 (k : Nat → Int) (s : Int) (x : Nat) : Nat → Int → Int
  | 0, a => a
  | i + 1, a => if zaw (k x) (k i) > 2 then zstp1 k s x i a else zon (zstp1 k s x i a) i
def zstp (k : Nat → Int) (n : Nat) (s : Int) : Nat → Int
  | 0 => s
  | x + 1 => if zbit s x = true then zstp1 k s x n (zstp k n s x) else zstp k n s x
theorem zstp1_s (k : Nat → Int) (s : Int) (x i : Nat) (a : Int) : zstp1 k s x (i + 1) a = if zaw (k x) (k i) > 2 then zstp1 k s x i a else zon (zstp1 k s x i a) i := rfl
theorem zstp_s (k : Nat → Int) (n : Nat) (s : Int) (x : Nat) : zstp k n s (x + 1) = if zbit s x = true then zstp1 k s x n (zstp k n s x) else zstp k n s x := rfl
theorem zstp1_12 (k : Nat → Int) (s : Int) (x : Nat) {a : Int} (ha : zset12 a) : ∀ {i : Nat}, i ≤ 12 → zset12 (zstp1 k s x i a)
  | 0, _ => ha
  | i + 1, h => by
    rw [zstp1_s]
    split
    · exact zstp1_12 k s x ha (by omega)
    · exact z_on12 (zstp1_12 k s x ha (i := i) (by omega)) (by omega)
theorem zstp_12 (k : Nat → Int) {n : Nat} (hn : n ≤ 12) {s : Int} (hs : zset12 s) : ∀ {x : Nat}, zset12 (zstp k n s x)
  | 0 => hs
  | x + 1 => by
    rw [zstp_s]
    split
    · exact zstp1_12 k s x (zstp_12 k hn hs) hn
    · exact zstp_12 k hn hs
theorem s_oneStepOn (d j : Nat) (s : Int) (hs : zset12 s) (μ : zM) {n : Nat} {B : Nat → Nat} (hH : zHc μ n B) (hL : zLc μ j) (K : Int → zM → Prop) (h : K (zstp (kC μ j B) n s n) μ) : zC1 (d + 4) m_X8_oneStepOn [zR 4 j, zI s] μ K := by
  have hH0 := hH
  obtain ⟨e1, e2, e3, -⟩ := hH
  refine k_X8_oneStepOn (d + 3) j s μ K ?_
  have L : ∀ m x : Nat, x + m = n → zJ (d + 4) m_X8_oneStepOn 4 [some (zR 4 j), some (zI s), some (zI (zstp (kC μ j B) n s x)), some (zI (x : Int)), none, none] μ (zQ1 K) := by
    intro m
    induction m with
    | zero =>
      intro x hx
      refine k_X8_oneStepOn_4 (d + 3) j s _ x μ K ⟨fun _ => ?_, fun q => absurd q (by omega)⟩
      rw [show x = n by omega]
      exact h
    | succ m ih =>
      intro x hx
      refine k_X8_oneStepOn_4 (d + 3) j s _ x μ K ⟨fun q => absurd q (by omega), fun _ => s_isIn _ s (zset12_in hs) x (by omega) μ _ ?_⟩
      have e := ih (x + 1) (by omega)
      rw [zstp_s] at e
      by_cases q : zbit s x = true
      · rw [if_pos q] at e ⊢
        refine ⟨fun _ => s_keyOf d j x μ hH0 (by omega) hL _ ?_, fun z => absurd (show (1 : Int) ≠ 0 by decide) z⟩
        have L2 : ∀ m2 i : Nat, i + m2 = n → zJ (d + 4) m_X8_oneStepOn 36 [some (zR 4 j), some (zI s), some (zI (zstp1 (kC μ j B) s x i (zstp (kC μ j B) n s x))), some (zI (x : Int)), some (zI (kC μ j B x)), some (zI (i : Int))] μ (zQ1 K) := by
          intro m2
          induction m2 with
          | zero =>
            intro i hi
            refine k_X8_oneStepOn_36 (d + 3) j s _ x _ i μ K ⟨fun _ => ?_, fun q => absurd q (by omega)⟩
            rw [show i = n by omega, z_fix (by omega) (by omega)]
            exact e
          | succ m2 ih2 =>
            intro i hi
            refine k_X8_oneStepOn_36 (d + 3) j s _ x _ i μ K ⟨fun q => absurd q (by omega), fun _ => s_keyOf d j i μ hH0 (by omega) hL _ (s_between (d + 2) _ _ (zkey_rg _ _) (zkey_rg _ _) μ _ ?_)⟩
            have e4 := ih2 (i + 1) (by omega)
            rw [zstp1_s] at e4
            rw [z_fix (by omega) (by omega), z_or12 (zstp1_12 _ _ _ (zstp_12 _ (by omega) hs) (by omega)) (by omega)]
            refine ⟨fun q2 => ?_, fun q2 => ?_⟩
            · rw [if_pos q2] at e4; exact e4
            · rw [if_neg q2] at e4; exact e4
        exact L2 n 0 (by omega)
      · rw [if_neg q] at e ⊢
        refine ⟨fun z => absurd rfl z, fun _ => ?_⟩
        rw [z_fix (by omega) (by omega)]
        exact e
  exact L n 0 (by omega)
/-- the MODULATION: m steps are left -/
def zmod (k : Nat → Int) (n t : Nat) : Nat → Int → Int → Int
  | 0, _, _ => -1
  | m + 1, i, s => if zbit s t = true then i else zmod k n t m (i + 1) (zstp k n s n)
theorem zmod_s (k : Nat → Int) (n t m : Nat) (i s : Int) : zmod k n t (m + 1) i s = if zbit s t = true then i else zmod k n t m (i + 1) (zstp k n s n) := rfl
theorem s_stepsBetween (d j r t : Nat) (μ : zM) {n : Nat} {B : Nat → Nat} (hH : zHc μ n B) (hr : r < n) (ht : t < n) (hL : zLc μ j) (K : Int → zM → Prop) (h : K (zmod (kC μ j B) n t 6 0 (2 ^ r)) μ) : zC1 (d + 5) m_X8_stepsBetween [zR 4 j, zI (r : Int), zI (t : Int)] μ K := by
  have hH0 := hH
  obtain ⟨e1, e2, e3, -⟩ := hH
  refine k_X8_stepsBetween (d + 4) j r t μ K ?_
  rw [z_shl1 r (by omega)]
  have h2 : ∀ r : Nat, r < 6 → zset12 ((2 : Int) ^ r) := by
    have : ∀ r : Nat, r < 6 → (0 ≤ (2 : Int) ^ r ∧ (2 : Int) ^ r < 4096) := by decide
    exact this
  have L : ∀ m i : Nat, i + m = 6 → ∀ s, zset12 s → zmod (kC μ j B) n t 6 0 (2 ^ r) = zmod (kC μ j B) n t m i s → zJ (d + 5) m_X8_stepsBetween 7 [some (zR 4 j), none, some (zI (t : Int)), some (zI s), some (zI (i : Int))] μ (zQ1 K) := by
    intro m
    induction m with
    | zero =>
      intro i hi s hs ha
      refine k_X8_stepsBetween_7 (d + 4) j t s i μ K ⟨fun _ => ?_, fun q => absurd q (by omega)⟩
      rw [ha] at h
      exact h
    | succ m ih =>
      intro i hi s hs ha
      refine k_X8_stepsBetween_7 (d + 4) j t s i μ K ⟨fun q => absurd q (by omega), fun _ => s_isIn _ s (zset12_in hs) t (by omega) μ _ ?_⟩
      rw [zmod_s _ _ _ m] at ha
      by_cases q : zbit s t = true
      · rw [if_pos q] at ha ⊢
        refine ⟨fun z => absurd z (by decide), fun _ => ?_⟩
        rw [ha] at h
        exact h
      · rw [if_neg q] at ha ⊢
        refine ⟨fun _ => s_oneStepOn d j s hs μ hH0 hL _ ?_, fun z => absurd rfl z⟩
        rw [z_fix (by omega) (by omega)]
        exact ih (i + 1) (by omega) _ (zstp_12 _ (by omega) hs) ha
  exact L 6 0 (by omega) _ (h2 r (by omega)) rfl
