/-! SPECS: pairs of ROOMS, sets counted (model) -/
theorem zpct_D : ∀ x : Nat, x < 64 → ∀ y : Nat, y < 64 → 64 * x + y ≠ 0 → (0 ≤ zand ((64 * x + y : Nat) : Int) (w32 (((64 * x + y : Nat) : Int) - 1)) ∧ zand ((64 * x + y : Nat) : Int) (w32 (((64 * x + y : Nat) : Int) - 1)) < ((64 * x + y : Nat) : Int)) ∧ zpct ((64 * x + y : Nat) : Int) = zpct (zand ((64 * x + y : Nat) : Int) (w32 (((64 * x + y : Nat) : Int) - 1))) + 1 := by decide +kernel
theorem zpct_n {s : Int} (h : zset12 s) (h0 : s ≠ 0) : (0 ≤ zand s (w32 (s - 1)) ∧ zand s (w32 (s - 1)) < s) ∧ zpct s = zpct (zand s (w32 (s - 1))) + 1 := by
  obtain ⟨n, rfl⟩ := Int.eq_ofNat_of_zero_le h.1
  have hn : n < 4096 := by have := h.2; omega
  have e := zpct_D (n / 64) (by omega) (n % 64) (by omega) (by omega)
  rw [show 64 * (n / 64) + n % 64 = n by omega] at e
  exact e
theorem s_bits (d : Nat) (s : Int) (hs : zset12 s) (μ : zM) (K : Int → zM → Prop) (h : K (zpct s) μ) : zC1 d m_X12_bits [zI s] μ K := by
  refine k_X12_bits d s μ K ?_
  have L : ∀ (m : Nat) (t c : Int), zset12 t → t < m → 0 ≤ c → c + zpct t = zpct s → zJ d m_X12_bits 4 [none, some (zI c), some (zI t)] μ (zQ1 K) := by
    intro m
    induction m with
    | zero => intro t c ht hm; have := ht.1; omega
    | succ m ih =>
      intro t c ht hm hc he
      refine k_X12_bits_4 d c t μ K ⟨fun q => ?_, fun q => ?_⟩
      · have e0 : zpct 0 = 0 := by decide +kernel
        rw [q, e0, Int.add_zero] at he
        rw [he]; exact h
      · obtain ⟨⟨g1, g2⟩, g3⟩ := zpct_n ht q
        have h1 := zpct_rg s
        have h2 := zpct_rg t
        rw [z_fix (show (-2147483648 : Int) ≤ c + 1 by omega) (by omega)]
        refine ih _ _ ⟨g1, ?_⟩ (by omega) (by omega) (by omega)
        have := ht.2
        omega
  exact L 4096 s 0 hs (by have := hs.2; omega) (Int.le_refl _) (by omega)
theorem s_mliftedInAll (d : Nat) (μ : zM) (hL : zLm μ 0) (K : Int → zM → Prop) (h : K (zSm (fun r => zpct (μ 34 0 r)) 6) μ) : zC1 (d + 1) m_X12_liftedInAll [zR 9 0] μ K := by
  refine k_X12_liftedInAll d μ K ?_
  have L : ∀ m i : Nat, i + m = 6 → zJ (d + 1) m_X12_liftedInAll 4 [some (zR 9 0), some (zI (zSm (fun r => zpct (μ 34 0 r)) i)), some (zI (i : Int))] μ (zQ1 K) := by
    intro m
    induction m with
    | zero =>
      intro i hi
      refine k_X12_liftedInAll_4 d _ i μ K ⟨fun _ => ?_, fun q => absurd q (by omega)⟩
      rw [show i = 6 by omega]
      exact h
    | succ m ih =>
      intro i hi
      have h1 := zSm_rg (f := fun r => zpct (μ 34 0 r)) (m := 12) (n := i) (fun r _ => zpct_rg _)
      have h2 := zpct_rg (μ 34 0 i)
      refine k_X12_liftedInAll_4 d _ i μ K ⟨fun q => absurd q (by omega), fun _ => ?_⟩
      rw [z_i (c := 0) (m := i) (by omega) (by omega), Int.toNat_natCast]
      refine ⟨⟨by omega, by omega⟩, s_bits d _ (hL i (by omega)) μ _ ?_⟩
      rw [z_fix (by omega) (by omega), z_fix (by omega) (by omega)]
      exact ih (i + 1) (by omega)
  exact L 6 0 (by omega)
theorem s_joinOf (d r t : Nat) (μ : zM) {n : Nat} {B : Nat → Nat} (hH : zHm μ n B) (hr : r < n) (ht : t < n) (hL : zLm μ 0) (K : Int → zM → Prop) (h : K (zjoin (rM μ 0 r) (rM μ 0 t) (B r) (B t)) μ) : zC1 (d + 3) m_X12_joinOf [zR 9 0, zI (r : Int), zI (t : Int)] μ K := by
  obtain ⟨e1, e2, e3, -⟩ := hH
  obtain ⟨g1, g2, g3⟩ := e3 r hr
  obtain ⟨g4, g5, g6⟩ := e3 t ht
  refine k_X12_joinOf (d + 2) r t μ K ?_
  rw [z_i (c := 4) (r := r) (m := 4 + r) (by omega) (by omega), z_i (c := 4) (r := t) (m := 4 + t) (by omega) (by omega), Int.toNat_natCast, Int.toNat_natCast, g1, g4]
  refine ⟨⟨by omega, by omega⟩, ⟨by omega, by omega⟩, s_lesser _ _ _ μ _ ?_⟩
  have e : (if (B r : Int) < (B t : Int) then (B r : Int) else (B t : Int)) = ((if B t < B r then B t else B r : Nat) : Int) := by
    by_cases q : B t < B r
    · rw [if_pos q, if_neg (by omega)]
    · rw [if_neg q]
      by_cases q2 : B r < B t
      · rw [if_pos (by omega)]
      · rw [if_neg (by omega)]; omega
  rw [e]
  have hm : (if B t < B r then B t else B r) ≤ B r ∧ (if B t < B r then B t else B r) ≤ B t := by split <;> omega
  unfold zjoin at h
  generalize (if B t < B r then B t else B r) = x at h hm ⊢
  have L : ∀ k : Nat, k ≤ x → zdow (zend (rM μ 0 r) (rM μ 0 t) (B r)) x = zdow (zend (rM μ 0 r) (rM μ 0 t) (B r)) k → zJ (d + 3) m_X12_joinOf 20 [some (zR 9 0), some (zI (r : Int)), some (zI (t : Int)), some (zI (k : Int)), none, none] μ (zQ1 K) := by
    intro k
    induction k with
    | zero =>
      intro _ ha
      refine k_X12_joinOf_20 (d + 2) r t _ μ K ⟨fun _ => ?_, fun q => absurd q (by omega)⟩
      rw [ha] at h
      exact h
    | succ k ih =>
      intro hk ha
      refine k_X12_joinOf_20 (d + 2) r t _ μ K ⟨fun q => absurd q (by omega), fun _ => ?_⟩
      have L2 : ∀ m2 i : Nat, i + m2 = k + 1 → zJ (d + 3) m_X12_joinOf 30 [some (zR 9 0), some (zI (r : Int)), some (zI (t : Int)), some (zI ((k + 1 : Nat) : Int)), some (zI (if zal2 (fun b => decide (rM μ 0 r (B r - (k + 1) + b) = rM μ 0 t b)) i = true then 1 else 0)), some (zI (i : Int))] μ (zQ1 K) := by
        intro m2
        induction m2 with
        | zero =>
          intro i hi
          refine k_X12_joinOf_30 (d + 2) r t _ _ i μ K ⟨fun _ => ?_, fun q => absurd q (by omega)⟩
          rw [zdow_s] at ha
          rw [show i = k + 1 by omega]
          by_cases q : zend (rM μ 0 r) (rM μ 0 t) (B r) (k + 1) = true
          · rw [if_pos q] at ha
            unfold zend at q
            rw [if_pos q]
            refine ⟨fun z => absurd z (by decide), fun _ => ?_⟩
            rw [ha] at h
            exact h
          · rw [if_neg q] at ha
            unfold zend at q
            rw [if_neg q]
            refine ⟨fun _ => ?_, fun z => absurd rfl z⟩
            rw [z_fix (by omega) (by omega), show ((k + 1 : Nat) : Int) + -1 = (k : Int) by omega]
            exact ih (by omega) ha
        | succ m2 ih2 =>
          intro i hi
          have e := ih2 (i + 1) (by omega)
          rw [zal2_s] at e
          refine k_X12_joinOf_30 (d + 2) r t _ _ i μ K ⟨fun q => absurd q (by omega), fun _ => ?_⟩
          rw [z_i (c := 4) (m := 4 + r) (by omega) (by omega), Int.toNat_natCast, g1]
          rw [z_fix (show (-2147483648 : Int) ≤ (i : Int) + 1 by omega) (by omega)]
          by_cases q : zal2 (fun b => decide (rM μ 0 r (B r - (k + 1) + b) = rM μ 0 t b)) i = true
          · rw [q, Bool.true_and] at e
            rw [if_pos q]
            refine ⟨fun z => absurd z (by decide), fun _ => ⟨⟨by omega, by omega⟩, ?_⟩⟩
            rw [z_fix (show (-2147483648 : Int) ≤ (B r : Int) - ((k + 1 : Nat) : Int) by omega) (by omega), show (B r : Int) - ((k + 1 : Nat) : Int) = ((B r - (k + 1) : Nat) : Int) by omega, z_fix (by omega) (by omega), show ((B r - (k + 1) : Nat) : Int) + (i : Int) = ((B r - (k + 1) + i : Nat) : Int) by omega]
            refine s_mreads d r _ (by omega) (by omega) μ hL _ (s_mreads d t i (by omega) (by omega) μ hL _ ⟨fun q2 => ?_, fun q2 => ?_⟩)
            · rw [if_neg (by simpa using q2)] at e; exact e
            · rw [if_pos (by simpa using q2)] at e; exact e
          · rw [show zal2 (fun b => decide (rM μ 0 r (B r - (k + 1) + b) = rM μ 0 t b)) i = false by simpa using q, Bool.false_and, if_neg (by decide)] at e
            rw [if_neg q]
            exact ⟨fun _ => e, fun z => absurd rfl z⟩
      exact L2 (k + 1) 0 (by omega)
  exact L x (Nat.le_refl _) rfl
abbrev kM (μ : zM) (B : Nat → Nat) (r : Nat) : Int := zkey (rM μ 0 r) (B r)
theorem s_apart (d r t : Nat) (μ : zM) {n : Nat} {B : Nat → Nat} (hH : zHm μ n B) (hr : r < n) (ht : t < n) (hL : zLm μ 0) (K : Int → zM → Prop) (h : K (zaw (kM μ B r) (kM μ B t)) μ) : zC1 (d + 4) m_X12_apart [zR 9 0, zI (r : Int), zI (t : Int)] μ K := by
  have ha := zkey_rg (rM μ 0 r) (B r)
  have hb := zkey_rg (rM μ 0 t) (B t)
  refine k_X12_apart (d + 3) r t μ K (s_mkey d r μ hH hr hL _ (s_mkey d t μ hH ht hL _ ?_))
  change K (zaw (zkey (rM μ 0 r) (B r)) (zkey (rM μ 0 t) (B t))) μ at h
  generalize zkey (rM μ 0 r) (B r) = a at ha h ⊢
  generalize zkey (rM μ 0 t) (B t) = b at hb h ⊢
  rw [show w32 (a - b) = a - b from z_fix (by omega) (by omega)]
  refine ⟨fun q => s_lesser _ _ _ μ _ ?_, fun q => s_lesser _ _ _ μ _ ?_⟩
  · rw [z_fix (by omega) (by omega)]
    unfold zaw at h
    rw [if_pos (show 0 ≤ a - b from q)] at h
    by_cases q2 : 12 - (a - b) < a - b
    · rw [if_pos q2] at h; rw [if_neg (by omega)]; exact h
    · rw [if_neg q2] at h
      by_cases q3 : a - b < 12 - (a - b)
      · rw [if_pos q3]; exact h
      · rw [if_neg q3, show 12 - (a - b) = a - b by omega]; exact h
  · rw [show w32 (-(a - b)) = b - a by rw [z_fix (by omega) (by omega)]; omega, z_fix (by omega) (by omega)]
    unfold zaw at h
    rw [if_neg (show ¬ 0 ≤ a - b from q)] at h
    by_cases q2 : 12 - (b - a) < b - a
    · rw [if_pos q2] at h; rw [if_neg (by omega)]; exact h
    · rw [if_neg q2] at h
      by_cases q3 : b - a < 12 - (b - a)
      · rw [if_pos q3]; exact h
      · rw [if_neg q3, show 12 - (b - a) = b - a by omega]; exact h
