/-! SPECS: what ROOMS READ (class) -/
def zal2 (g : Nat → Bool) : Nat → Bool
  | 0 => true
  | n + 1 => zal2 g n && g n
theorem zal2_ext {f g : Nat → Bool} : ∀ {n : Nat}, (∀ b, b < n → f b = g b) → zal2 f n = zal2 g n
  | 0, _ => rfl
  | n + 1, h => by
    unfold zal2
    rw [zal2_ext (n := n) (fun b hb => h b (by omega)), h n (by omega)]
theorem zal2_no {g : Nat → Bool} {i : Nat} (hi : g i = false) : ∀ {n : Nat}, i < n → zal2 g n = false
  | 0, h => by omega
  | n + 1, h => by
    unfold zal2
    by_cases q : i = n
    · subst q; rw [hi]; simp
    · rw [zal2_no hi (n := n) (by omega)]; rfl
/-- the first from i on, of m -/
def zfro (g : Nat → Bool) : Nat → Nat → Nat
  | 0, i => i
  | m + 1, i => if g i = true then i else zfro g m (i + 1)
theorem zfro_ext {f g : Nat → Bool} : ∀ {m i : Nat}, (∀ b, i ≤ b → b < i + m → f b = g b) → zfro f m i = zfro g m i
  | 0, _, _ => rfl
  | m + 1, i, h => by
    unfold zfro
    rw [h i (Nat.le_refl _) (by omega), zfro_ext (m := m) (i := i + 1) (fun b h1 h2 => h b (by omega) (by omega))]
/-- the last one of 1 .. n, or 0 -/
def zdow (g : Nat → Bool) : Nat → Nat
  | 0 => 0
  | n + 1 => if g (n + 1) = true then n + 1 else zdow g n
theorem zdow_ext {f g : Nat → Bool} : ∀ {n : Nat}, (∀ b, b ≤ n → f b = g b) → zdow f n = zdow g n
  | 0, _ => rfl
  | n + 1, h => by
    unfold zdow
    rw [h (n + 1) (Nat.le_refl _), zdow_ext (n := n) (fun b hb => h b (by omega))]
/-- a set -/
def zbm (g : Nat → Bool) : Nat → Int
  | 0 => 0
  | n + 1 => if g n = true then zon (zbm g n) n else zbm g n
theorem zbm_ext {f g : Nat → Bool} : ∀ {n : Nat}, (∀ b, b < n → f b = g b) → zbm f n = zbm g n
  | 0, _ => rfl
  | n + 1, h => by
    unfold zbm
    rw [h n (by omega), zbm_ext (n := n) (fun b hb => h b (by omega))]
theorem zbm_12 (g : Nat → Bool) : ∀ {n : Nat}, n ≤ 12 → zset12 (zbm g n)
  | 0, _ => ⟨by show (0 : Int) ≤ 0; omega, by show (0 : Int) < 4096; omega⟩
  | n + 1, h => by
    unfold zbm
    split
    · exact z_on12 (zbm_12 g (n := n) (by omega)) (by omega)
    · exact zbm_12 g (n := n) (by omega)
theorem zSm_s (f : Nat → Int) (n : Nat) : zSm f (n + 1) = zSm f n + f n := rfl
theorem zbm_s (g : Nat → Bool) (n : Nat) : zbm g (n + 1) = if g n = true then zon (zbm g n) n else zbm g n := rfl
theorem zfro_s (g : Nat → Bool) (m i : Nat) : zfro g (m + 1) i = if g i = true then i else zfro g m (i + 1) := rfl
theorem zal2_s (g : Nat → Bool) (n : Nat) : zal2 g (n + 1) = (zal2 g n && g n) := rfl
theorem zdow_s (g : Nat → Bool) (n : Nat) : zdow g (n + 1) = if g (n + 1) = true then n + 1 else zdow g n := rfl
def zeqb (f g : Nat → Int) (b : Nat) : Bool := decide (f b = g b)
def zrpt (f : Nat → Int) (n p b : Nat) : Bool := decide (f b = f ((b + p) % n))
theorem s_repeatsBy (d j r p : Nat) (hp : p < 100) (μ : zM) {n : Nat} {B : Nat → Nat} (hH : zHc μ n B) (hr : r < n) (hL : zLc μ j) (K : Int → zM → Prop) (h : K (if zal2 (zrpt (rC μ j r) (B r) p) (B r) = true then 1 else 0) μ) : zC1 (d + 4) m_X8_repeatsBy [zR 4 j, zI (r : Int), zI (p : Int)] μ K := by
  have hH0 := hH
  obtain ⟨e1, e2, e3, -⟩ := hH
  obtain ⟨g1, g2, g3⟩ := e3 r hr
  refine k_X8_repeatsBy (d + 3) j r p μ K (s_barsOf (d + 2) 0 r (by omega) μ _ ?_)
  rw [g1]
  have L : ∀ m i : Nat, i + m = B r → zal2 (zrpt (rC μ j r) (B r) p) i = true → zJ (d + 4) m_X8_repeatsBy 12 [some (zR 4 j), some (zI (r : Int)), some (zI (p : Int)), some (zI (B r : Int)), some (zI (i : Int))] μ (zQ1 K) := by
    intro m
    induction m with
    | zero =>
      intro i hi ha
      refine k_X8_repeatsBy_12 (d + 3) j r p (B r) i μ K ⟨fun _ => ⟨Or.inr rfl, ?_⟩, fun q => absurd q (by omega)⟩
      rw [show i = B r by omega] at ha
      rw [if_pos ha] at h
      exact h
    | succ m ih =>
      intro i hi ha
      refine k_X8_repeatsBy_12 (d + 3) j r p (B r) i μ K ⟨fun q => absurd q (by omega), fun _ => s_reads (d + 1) j r i (by omega) (by omega) μ hL _ ?_⟩
      rw [z_fix (by omega) (by omega), show (i : Int) + (p : Int) = ((i + p : Nat) : Int) by omega]
      refine s_readsRound d j r (i + p) μ hH0 hr hL _ ⟨fun q => ?_, fun q => ⟨Or.inl rfl, ?_⟩⟩
      · rw [z_fix (by omega) (by omega)]
        refine ih (i + 1) (by omega) ?_
        rw [zal2_s, ha]
        simpa [zrpt] using q
      · have := zal2_no (g := zrpt (rC μ j r) (B r) p) (i := i) (by simpa [zrpt] using q) (n := B r) (by omega)
        rw [this] at h
        exact h
  exact L (B r) 0 (by omega) rfl
/-- the REPEAT -/
def zrep (f : Nat → Int) (n : Nat) : Nat := zfro (fun p => zal2 (zrpt f n p) n) (n - 1) 1
theorem s_repeatOf (d j r : Nat) (μ : zM) {n : Nat} {B : Nat → Nat} (hH : zHc μ n B) (hr : r < n) (hL : zLc μ j) (K : Int → zM → Prop) (h : K (zrep (rC μ j r) (B r)) μ) : zC1 (d + 5) m_X8_repeatOf [zR 4 j, zI (r : Int)] μ K := by
  have hH0 := hH
  obtain ⟨e1, e2, e3, -⟩ := hH
  obtain ⟨g1, g2, g3⟩ := e3 r hr
  refine k_X8_repeatOf (d + 4) j r μ K (s_barsOf (d + 3) 0 r (by omega) μ _ ?_)
  rw [g1]
  have L : ∀ m i : Nat, i + m = B r → 0 < i → zrep (rC μ j r) (B r) = zfro (fun p => zal2 (zrpt (rC μ j r) (B r) p) (B r)) m i → zJ (d + 5) m_X8_repeatOf 11 [some (zR 4 j), some (zI (r : Int)), some (zI (B r : Int)), some (zI (i : Int))] μ (zQ1 K) := by
    intro m
    induction m with
    | zero =>
      intro i hi h0 ha
      refine k_X8_repeatOf_11 (d + 4) j r (B r) i μ K ⟨fun _ => ?_, fun q => absurd q (by omega)⟩
      rw [ha] at h
      have e : zfro (fun p => zal2 (zrpt (rC μ j r) (B r) p) (B r)) 0 i = B r := by unfold zfro; omega
      rw [e] at h
      exact h
    | succ m ih =>
      intro i hi h0 ha
      refine k_X8_repeatOf_11 (d + 4) j r (B r) i μ K ⟨fun q => absurd q (by omega), fun _ => s_repeatsBy d j r i (by omega) μ hH0 hr hL _ ?_⟩
      rw [zfro_s] at ha
      by_cases q : zal2 (zrpt (rC μ j r) (B r) i) (B r) = true
      · rw [if_pos q] at ha ⊢
        refine ⟨fun z => absurd z (by decide), fun _ => ?_⟩
        rw [ha] at h
        exact h
      · rw [if_neg q] at ha ⊢
        refine ⟨fun _ => ?_, fun z => absurd rfl z⟩
        rw [z_fix (by omega) (by omega)]
        exact ih (i + 1) (by omega) (by omega) ha
  exact L (B r - 1) 1 (by omega) (by omega) rfl
def zopn (f : Nat → Nat → Int) (B : Nat → Nat) (r : Nat) : Bool := decide (f r (B r - 1) ≠ f r 0)
theorem s_openRooms (d j : Nat) (μ : zM) {n : Nat} {B : Nat → Nat} (hH : zHc μ n B) (hL : zLc μ j) (K : Int → zM → Prop) (h : K (zbm (zopn (rC μ j) B) n) μ) : zC1 (d + 3) m_X8_openRooms [zR 4 j] μ K := by
  have hH0 := hH
  obtain ⟨e1, e2, e3, -⟩ := hH
  refine k_X8_openRooms (d + 2) j μ K ?_
  have L : ∀ m i : Nat, i + m = n → zJ (d + 3) m_X8_openRooms 4 [some (zR 4 j), some (zI (zbm (zopn (rC μ j) B) i)), some (zI (i : Int))] μ (zQ1 K) := by
    intro m
    induction m with
    | zero =>
      intro i hi
      refine k_X8_openRooms_4 (d + 2) j _ i μ K ⟨fun _ => ?_, fun q => absurd q (by omega)⟩
      rw [show i = n by omega]
      exact h
    | succ m ih =>
      intro i hi
      obtain ⟨g1, g2, g3⟩ := e3 i (by omega)
      refine k_X8_openRooms_4 (d + 2) j _ i μ K ⟨fun q => absurd q (by omega), fun _ => s_barsOf (d + 1) 0 i (by omega) μ _ ?_⟩
      rw [g1, z_fix (by omega) (by omega), show (B i : Int) - 1 = ((B i - 1 : Nat) : Int) by omega]
      refine s_reads d j i (B i - 1) (by omega) (by omega) μ hL _ (s_reads d j i 0 (by omega) (by omega) μ hL _ ?_)
      rw [z_fix (by omega) (by omega), z_or12 (zbm_12 _ (by omega)) (by omega)]
      have e := ih (i + 1) (by omega)
      rw [zbm_s] at e
      refine ⟨fun q => ?_, fun q => ?_⟩
      · rw [if_neg (by simp [zopn, q])] at e
        exact e
      · rw [if_pos (by simpa [zopn] using q)] at e
        exact e
  exact L n 0 (by omega)
/-- how many BARS read a number -/
def zhow (f : Nat → Nat → Int) (B : Nat → Nat) (x : Int) (r : Nat) : Int := zSm (fun b => if f r b = x then 1 else 0) (B r)
def zcnt (f : Nat → Nat → Int) (B : Nat → Nat) (n : Nat) (x : Int) : Int := zSm (zhow f B x) n
theorem zhow_rg (f : Nat → Nat → Int) (B : Nat → Nat) (x : Int) (r : Nat) : ∀ i, 0 ≤ zSm (fun b => if f r b = x then (1 : Int) else 0) i ∧ zSm (fun b => if f r b = x then (1 : Int) else 0) i ≤ i := by
  intro i
  have := zSm_rg (f := fun b => if f r b = x then (1 : Int) else 0) (m := 1) (n := i) (fun b _ => by by_cases q : f r b = x <;> simp [q])
  omega
theorem zcnt_rg (f : Nat → Nat → Int) (B : Nat → Nat) (x : Int) {n : Nat} (h : ∀ r, r < n → B r ≤ 12) : ∀ i, i ≤ n → 0 ≤ zSm (zhow f B x) i ∧ zSm (zhow f B x) i ≤ 12 * i := by
  intro i hi
  refine zSm_rg (m := 12) (fun r hr => ?_)
  have h1 := zhow_rg f B x r (B r)
  have h2 := h r (by omega)
  unfold zhow
  omega
theorem s_howManyRead (d j : Nat) (x : Int) (μ : zM) {n : Nat} {B : Nat → Nat} (hH : zHc μ n B) (hL : zLc μ j) (K : Int → zM → Prop) (h : K (zcnt (rC μ j) B n x) μ) : zC1 (d + 3) m_X8_howManyRead [zR 4 j, zI x] μ K := by
  have hH0 := hH
  obtain ⟨e1, e2, e3, -⟩ := hH
  have hB : ∀ r, r < n → B r ≤ 12 := fun r hr => (e3 r hr).2.2
  refine k_X8_howManyRead (d + 2) j x μ K ?_
  have L : ∀ m i : Nat, i + m = n → zJ (d + 3) m_X8_howManyRead 4 [some (zR 4 j), some (zI x), some (zI (zSm (zhow (rC μ j) B x) i)), some (zI (i : Int)), none, none] μ (zQ1 K) := by
    intro m
    induction m with
    | zero =>
      intro i hi
      refine k_X8_howManyRead_4 (d + 2) j x _ i μ K ⟨fun _ => ?_, fun q => absurd q (by omega)⟩
      rw [show i = n by omega]
      exact h
    | succ m ih =>
      intro i hi
      obtain ⟨g1, g2, g3⟩ := e3 i (by omega)
      refine k_X8_howManyRead_4 (d + 2) j x _ i μ K ⟨fun q => absurd q (by omega), fun _ => s_barsOf (d + 1) 0 i (by omega) μ _ ?_⟩
      rw [g1]
      have hc := zcnt_rg (rC μ j) B x hB i (by omega)
      have L2 : ∀ m b : Nat, b + m = B i → zJ (d + 3) m_X8_howManyRead 28 [some (zR 4 j), some (zI x), some (zI (zSm (zhow (rC μ j) B x) i + zSm (fun b => if rC μ j i b = x then 1 else 0) b)), some (zI (i : Int)), some (zI (B i : Int)), some (zI (b : Int))] μ (zQ1 K) := by
        intro m2
        induction m2 with
        | zero =>
          intro b hb
          refine k_X8_howManyRead_28 (d + 2) j x _ i (B i) b μ K ⟨fun _ => ?_, fun q => absurd q (by omega)⟩
          rw [z_fix (by omega) (by omega)]
          have e := ih (i + 1) (by omega)
          rw [show b = B i by omega]
          exact e
        | succ m2 ih2 =>
          intro b hb
          have hh := zhow_rg (rC μ j) B x i b
          refine k_X8_howManyRead_28 (d + 2) j x _ i (B i) b μ K ⟨fun q => absurd q (by omega), fun _ => s_reads d j i b (by omega) (by omega) μ hL _ ?_⟩
          have e := ih2 (b + 1) (by omega)
          rw [z_fix (show (-2147483648 : Int) ≤ (b : Int) + 1 by omega) (by omega)]
          rw [zSm_s] at e
          refine ⟨fun q => ?_, fun q => ?_⟩
          · rw [if_neg q, Int.add_zero] at e
            exact e
          · have q2 : rC μ j i b = x := by omega
            rw [if_pos q2, ← Int.add_assoc] at e
            rw [z_fix (by omega) (by omega)]
            exact e
      have e := L2 (B i) 0 (by omega)
      rw [show zSm (fun b => if rC μ j i b = x then (1 : Int) else 0) 0 = 0 from rfl, Int.add_zero] at e
      exact e
  exact L n 0 (by omega)
/-- the number most read: state (best, how many) -/
def zmor (c : Nat → Int) : Nat → Int × Int
  | 0 => (-1, 0)
  | i + 1 => if c (i + 1) ≤ (zmor c i).2 then zmor c i else (((i + 1 : Nat) : Int), c (i + 1))
theorem s_mostRead (d j : Nat) (μ : zM) {n : Nat} {B : Nat → Nat} (hH : zHc μ n B) (hL : zLc μ j) (K : Int → zM → Prop) (h : K (zmor (fun x => zcnt (rC μ j) B n (x : Int)) 9).1 μ) : zC1 (d + 4) m_X8_mostRead [zR 4 j] μ K := by
  refine k_X8_mostRead (d + 3) j μ K ?_
  have L : ∀ m i : Nat, i + m = 9 → zJ (d + 4) m_X8_mostRead 6 [some (zR 4 j), some (zI (zmor (fun x => zcnt (rC μ j) B n (x : Int)) i).1), some (zI (zmor (fun x => zcnt (rC μ j) B n (x : Int)) i).2), some (zI ((i + 1 : Nat) : Int)), none] μ (zQ1 K) := by
    intro m
    induction m with
    | zero =>
      intro i hi
      refine k_X8_mostRead_6 (d + 3) j _ _ _ μ K ⟨fun _ => ?_, fun q => absurd q (by omega)⟩
      rw [show i = 9 by omega]
      exact h
    | succ m ih =>
      intro i hi
      refine k_X8_mostRead_6 (d + 3) j _ _ _ μ K ⟨fun q => absurd q (by omega), fun _ => s_howManyRead d j _ μ hH hL _ ?_⟩
      have e := ih (i + 1) (by omega)
      rw [z_fix (by omega) (by omega)]
      unfold zmor at e
      refine ⟨fun q => ?_, fun q => ?_⟩
      · rw [if_pos q] at e; exact e
      · rw [if_neg q] at e; exact e
  exact L 9 0 (by omega)
theorem s_firstThatReads (d j r : Nat) (x : Int) (μ : zM) {n : Nat} {B : Nat → Nat} (hH : zHc μ n B) (hr : r < n) (hL : zLc μ j) (K : Int → zM → Prop) (h : K (if zfro (fun b => decide (rC μ j r b = x)) (B r) 0 < B r then (zfro (fun b => decide (rC μ j r b = x)) (B r) 0 : Int) else -1) μ) : zC1 (d + 3) m_X8_firstThatReads [zR 4 j, zI (r : Int), zI x] μ K := by
  have hH0 := hH
  obtain ⟨e1, e2, e3, -⟩ := hH
  obtain ⟨g1, g2, g3⟩ := e3 r hr
  refine k_X8_firstThatReads (d + 2) j r x μ K (s_barsOf (d + 1) 0 r (by omega) μ _ ?_)
  rw [g1]
  have L : ∀ m i : Nat, i + m = B r → zfro (fun b => decide (rC μ j r b = x)) (B r) 0 = zfro (fun b => decide (rC μ j r b = x)) m i → zJ (d + 3) m_X8_firstThatReads 12 [some (zR 4 j), some (zI (r : Int)), some (zI x), some (zI (B r : Int)), some (zI (i : Int))] μ (zQ1 K) := by
    intro m
    induction m with
    | zero =>
      intro i hi ha
      refine k_X8_firstThatReads_12 (d + 2) j r x (B r) i μ K ⟨fun _ => ?_, fun q => absurd q (by omega)⟩
      have e : zfro (fun b => decide (rC μ j r b = x)) 0 i = B r := by unfold zfro; omega
      rw [ha, e, if_neg (by omega)] at h
      exact h
    | succ m ih =>
      intro i hi ha
      refine k_X8_firstThatReads_12 (d + 2) j r x (B r) i μ K ⟨fun q => absurd q (by omega), fun _ => s_reads d j r i (by omega) (by omega) μ hL _ ?_⟩
      rw [z_fix (by omega) (by omega)]
      rw [zfro_s] at ha
      refine ⟨fun q => ?_, fun q => ?_⟩
      · rw [if_neg (by simpa using q)] at ha
        exact ih (i + 1) (by omega) ha
      · rw [if_pos (by have : rC μ j r i = x := by omega
                       simpa using this)] at ha
        rw [ha, if_pos (by omega)] at h
        exact h
  exact L (B r) 0 (by omega) rfl
