/-! SPECS: CANONS (class) -/
def zalk (f g : Nat → Int) (n m k : Nat) : Int := zSm (fun b => if f b = g ((b + k) % m) then 1 else 0) n
theorem z01_rg (p : Nat → Prop) [DecidablePred p] (n : Nat) : 0 ≤ zSm (fun b => if p b then (1 : Int) else 0) n ∧ zSm (fun b => if p b then (1 : Int) else 0) n ≤ n := by
  have := zSm_rg (f := fun b => if p b then (1 : Int) else 0) (m := 1) (n := n) (fun b _ => by by_cases q : p b <;> simp [q])
  omega
theorem s_alike (d j r t k : Nat) (hk : k < 100) (μ : zM) {n : Nat} {B : Nat → Nat} (hH : zHc μ n B) (hr : r < n) (ht : t < n) (hL : zLc μ j) (K : Int → zM → Prop) (h : K (zalk (rC μ j r) (rC μ j t) (B r) (B t) k) μ) : zC1 (d + 4) m_X0_alike [zR 4 j, zI (r : Int), zI (t : Int), zI (k : Int)] μ K := by
  have hH0 := hH
  obtain ⟨e1, e2, e3, -⟩ := hH
  obtain ⟨g1, g2, g3⟩ := e3 r hr
  refine k_X0_alike (d + 3) j r t k μ K (s_barsOf (d + 2) 0 r (by omega) μ _ ?_)
  rw [g1]
  have L : ∀ m i : Nat, i + m = B r → zJ (d + 4) m_X0_alike 16 [some (zR 4 j), some (zI (r : Int)), some (zI (t : Int)), some (zI (k : Int)), some (zI (zalk (rC μ j r) (rC μ j t) i (B t) k)), some (zI (B r : Int)), some (zI (i : Int))] μ (zQ1 K) := by
    intro m
    induction m with
    | zero =>
      intro i hi
      refine k_X0_alike_16 (d + 3) j r t k _ (B r) i μ K ⟨fun _ => ?_, fun q => absurd q (by omega)⟩
      rw [show i = B r by omega]
      exact h
    | succ m ih =>
      intro i hi
      refine k_X0_alike_16 (d + 3) j r t k _ (B r) i μ K ⟨fun q => absurd q (by omega), fun _ => s_reads (d + 1) j r i (by omega) (by omega) μ hL _ ?_⟩
      rw [z_fix (by omega) (by omega), show (i : Int) + (k : Int) = ((i + k : Nat) : Int) by omega]
      refine s_readsRound d j t (i + k) μ hH0 ht hL _ ?_
      have e := ih (i + 1) (by omega)
      have hg := z01_rg (fun b => rC μ j r b = rC μ j t ((b + k) % B t)) i
      rw [z_fix (show (-2147483648 : Int) ≤ (i : Int) + 1 by omega) (by omega)]
      unfold zalk at e ⊢
      rw [zSm_s] at e
      refine ⟨fun q => ?_, fun q => ?_⟩
      · rw [if_neg q, Int.add_zero] at e; exact e
      · rw [if_pos (by omega)] at e
        rw [z_fix (by omega) (by omega)]
        exact e
  exact L (B r) 0 (by omega)
/-- the best of n: state (which, how much) -/
def zbst (c : Nat → Int) : Nat → Int × Int
  | 0 => (0, -1)
  | i + 1 => if c i ≤ (zbst c i).2 then zbst c i else ((i : Int), c i)
theorem zbst_s (c : Nat → Int) (i : Nat) : zbst c (i + 1) = if c i ≤ (zbst c i).2 then zbst c i else ((i : Int), c i) := rfl
theorem s_bestShift (d j r t : Nat) (μ : zM) {n : Nat} {B : Nat → Nat} (hH : zHc μ n B) (hr : r < n) (ht : t < n) (hL : zLc μ j) (K : Int → zM → Prop) (h : K (zbst (zalk (rC μ j r) (rC μ j t) (B r) (B t)) (B t)).1 μ) : zC1 (d + 5) m_X0_bestShift [zR 4 j, zI (r : Int), zI (t : Int)] μ K := by
  have hH0 := hH
  obtain ⟨e1, e2, e3, -⟩ := hH
  obtain ⟨g1, g2, g3⟩ := e3 t ht
  refine k_X0_bestShift (d + 4) j r t μ K (s_barsOf (d + 3) 0 t (by omega) μ _ ?_)
  rw [g1]
  have L : ∀ m i : Nat, i + m = B t → zJ (d + 5) m_X0_bestShift 18 [some (zR 4 j), some (zI (r : Int)), some (zI (t : Int)), some (zI (zbst (zalk (rC μ j r) (rC μ j t) (B r) (B t)) i).1), some (zI (zbst (zalk (rC μ j r) (rC μ j t) (B r) (B t)) i).2), some (zI (B t : Int)), some (zI (i : Int)), none] μ (zQ1 K) := by
    intro m
    induction m with
    | zero =>
      intro i hi
      refine k_X0_bestShift_18 (d + 4) j r t _ _ (B t) i μ K ⟨fun _ => ?_, fun q => absurd q (by omega)⟩
      rw [show i = B t by omega]
      exact h
    | succ m ih =>
      intro i hi
      refine k_X0_bestShift_18 (d + 4) j r t _ _ (B t) i μ K ⟨fun q => absurd q (by omega), fun _ => s_alike d j r t i (by omega) μ hH0 hr ht hL _ ?_⟩
      have e := ih (i + 1) (by omega)
      rw [z_fix (by omega) (by omega)]
      rw [zbst_s] at e
      refine ⟨fun q => ?_, fun q => ?_⟩
      · rw [if_pos q] at e; exact e
      · rw [if_neg q] at e; exact e
  exact L (B t) 0 (by omega)
/-- the other sheet of a BAR -/
def oC (μ : zM) (j r b : Nat) : Int := if r < 6 ∧ b < 12 then (if zbit (μ 15 j r) b = true then μ 11 0 (12 * r + b) else μ 12 0 (12 * r + b)) else 0
/-- MATCH: what must be turned, or NONE -/
def zmt (f o g : Nat → Int) (n m k : Nat) : Int := if zal2 (fun b => decide (f b = g ((b + k) % m) ∨ o b = g ((b + k) % m))) n = true then zbm (fun b => decide (f b ≠ g ((b + k) % m))) n else -1
theorem s_barsToTurn (d j r t k : Nat) (hk : k < 100) (μ : zM) {n : Nat} {B : Nat → Nat} (hH : zHc μ n B) (hr : r < n) (ht : t < n) (hL : zLc μ j) (K : Int → zM → Prop) (h : K (zmt (rC μ j r) (oC μ j r) (rC μ j t) (B r) (B t) k) μ) : zC1 (d + 4) m_X0_barsToTurn [zR 4 j, zI (r : Int), zI (t : Int), zI (k : Int)] μ K := by
  have hH0 := hH
  obtain ⟨e1, e2, e3, -⟩ := hH
  obtain ⟨g1, g2, g3⟩ := e3 r hr
  refine k_X0_barsToTurn (d + 3) j r t k μ K (s_barsOf (d + 2) 0 r (by omega) μ _ ?_)
  rw [g1]
  have L : ∀ m i : Nat, i + m = B r → zal2 (fun b => decide (rC μ j r b = rC μ j t ((b + k) % B t) ∨ oC μ j r b = rC μ j t ((b + k) % B t))) i = true → zJ (d + 4) m_X0_barsToTurn 16 [some (zR 4 j), some (zI (r : Int)), some (zI (t : Int)), some (zI (k : Int)), some (zI (zbm (fun b => decide (rC μ j r b ≠ rC μ j t ((b + k) % B t))) i)), some (zI (B r : Int)), some (zI (i : Int)), none, none] μ (zQ1 K) := by
    intro m
    induction m with
    | zero =>
      intro i hi ha
      refine k_X0_barsToTurn_16 (d + 3) j r t k _ (B r) i μ K ⟨fun _ => ?_, fun q => absurd q (by omega)⟩
      rw [show i = B r by omega] at ha ⊢
      unfold zmt at h
      rw [if_pos ha] at h
      exact h
    | succ m ih =>
      intro i hi ha
      refine k_X0_barsToTurn_16 (d + 3) j r t k _ (B r) i μ K ⟨fun q => absurd q (by omega), fun _ => ?_⟩
      rw [z_fix (by omega) (by omega), show (i : Int) + (k : Int) = ((i + k : Nat) : Int) by omega]
      refine s_readsRound d j t (i + k) μ hH0 ht hL _ (s_reads (d + 1) j r i (by omega) (by omega) μ hL _ ?_)
      have e := ih (i + 1) (by omega)
      rw [zal2_s, ha, zbm_s] at e
      have bad : ¬ rC μ j r i = rC μ j t ((i + k) % B t) → ¬ oC μ j r i = rC μ j t ((i + k) % B t) → K (-1) μ := by
        intro q1 q2
        have := zal2_no (g := fun b => decide (rC μ j r b = rC μ j t ((b + k) % B t) ∨ oC μ j r b = rC μ j t ((b + k) % B t))) (i := i) (by simp [q1, q2]) (n := B r) (by omega)
        unfold zmt at h
        rw [if_neg (by rw [this]; decide)] at h
        exact h
      rw [z_fix (show (-2147483648 : Int) ≤ (i : Int) + 1 by omega) (by omega), z_or12 (zbm_12 _ (by omega)) (by omega)]
      refine ⟨fun q => s_isLifted (d + 2) j r i (by omega) (by omega) μ hL _ ?_, fun q => ?_⟩
      · have good : oC μ j r i = rC μ j t ((i + k) % B t) → zJ (d + 4) m_X0_barsToTurn 16 [some (zR 4 j), some (zI (r : Int)), some (zI (t : Int)), some (zI (k : Int)), some (zI (zon (zbm (fun b => decide (rC μ j r b ≠ rC μ j t ((b + k) % B t))) i) i)), some (zI (B r : Int)), some (zI ((i : Int) + 1)), none, none] μ (zQ1 K) := by
          intro q2
          have e5 := e (by simp [q2])
          rw [if_pos (by simpa using q)] at e5
          exact e5
        by_cases z : zbit (μ 15 j r) i = true
        · rw [if_pos z]
          have eo : oC μ j r i = μ 11 0 (12 * r + i) := by unfold oC; rw [if_pos ⟨by omega, by omega⟩, if_pos z]
          refine ⟨fun q2 => absurd q2 (by decide), fun _ => s_paperOf (d + 2) 0 r i (by omega) (by omega) μ _ ?_⟩
          rw [← eo]
          exact ⟨good, bad q⟩
        · rw [if_neg z]
          have eo : oC μ j r i = μ 12 0 (12 * r + i) := by unfold oC; rw [if_pos ⟨by omega, by omega⟩, if_neg z]
          refine ⟨fun _ => s_underOf (d + 2) 0 r i (by omega) (by omega) μ _ ?_, fun q2 => absurd rfl q2⟩
          rw [← eo]
          exact ⟨good, bad q⟩
      · have q2 : rC μ j r i = rC μ j t ((i + k) % B t) := by omega
        have e5 := e (by simp [q2])
        rw [if_neg (by simp [q2])] at e5
        exact e5
  exact L (B r) 0 (by omega) rfl
