/-! SPECS: what is read of the house and of a life (model) -/
theorem z_i {c : Int} {r m : Nat} (h : c + (r : Int) = (m : Int)) (hm : m < 10000) : w32 (c + (r : Int)) = (m : Int) := by
  rw [h]; exact z_fix (by omega) (by omega)
theorem z_lt0 {a b : Int} : zlcmp a b < 0 ↔ a < b := by
  unfold zlcmp
  split
  · omega
  · split <;> omega
theorem z_gt0 {a b : Int} : zlcmp a b > 0 ↔ a > b := by
  unfold zlcmp
  split
  · omega
  · split <;> omega
theorem s_in (d : Nat) (a lo hi : Int) (μ : zM) (K : Int → zM → Prop) (h1 : lo ≤ a → a ≤ hi → K 1 μ) (h0 : ¬ (lo ≤ a ∧ a ≤ hi) → K 0 μ) : zC1 d m_X12_in [zL a, zL lo, zL hi] μ K := by
  refine k_X12_in d a lo hi μ K ⟨fun q => ⟨Or.inl rfl, h0 ?_⟩, fun q => ⟨fun q2 => ⟨Or.inl rfl, h0 ?_⟩, fun q2 => ⟨Or.inr rfl, h1 ?_ ?_⟩⟩⟩
  · have := z_lt0.mp q; omega
  · have := z_gt0.mp q2; omega
  · have : ¬ a < lo := fun z => q (z_lt0.mpr z)
    omega
  · have : ¬ a > hi := fun z => q2 (z_gt0.mpr z)
    omega
theorem s_has (d : Nat) (s : Int) (hs : zin s) (k : Nat) (hk : k < 32) (μ : zM) (K : Int → zM → Prop) (h : K (if zbit s k = true then 1 else 0) μ) : zC1 d m_X12_has [zI s, zI (k : Int)] μ K := by
  refine k_X12_has d s k μ K ⟨fun q => ⟨Or.inl rfl, ?_⟩, fun q => ⟨Or.inr rfl, ?_⟩⟩
  · have : ¬ zbit s k = true := fun z => q ((z_has1 hs (by omega)).mpr z)
    rw [if_neg this] at h; exact h
  · have : zbit s k = true := (z_has1 hs (by omega)).mp (Classical.byContradiction fun z => q z)
    rw [if_pos this] at h; exact h
theorem s_lesser (d : Nat) (a b : Int) (μ : zM) (K : Int → zM → Prop) (h : K (if a < b then a else b) μ) : zC1 d m_X12_lesser [zI a, zI b] μ K := by
  refine k_X12_lesser d a b μ K ⟨fun q => ?_, fun q => ?_⟩
  · rw [if_neg (by omega)] at h; exact h
  · rw [if_pos (by omega)] at h; exact h
def zHm (μ : zM) (n : Nat) (B : Nat → Nat) : Prop := μ 33 0 1 = (n : Int) ∧ n ≤ 6 ∧ (∀ r, r < n → μ 33 0 (4 + r) = (B r : Int) ∧ 1 ≤ B r ∧ B r ≤ 12) ∧ ∀ r b, r < n → b < B r → (0 ≤ μ 33 0 (16 + 12 * r + b) ∧ μ 33 0 (16 + 12 * r + b) ≤ 9) ∧ (0 ≤ μ 33 0 (88 + 12 * r + b) ∧ μ 33 0 (88 + 12 * r + b) ≤ 9)
def zLm (μ : zM) (i : Nat) : Prop := ∀ r, r < 6 → zset12 (μ 34 i r)
def rM (μ : zM) (i r b : Nat) : Int := if r < 6 ∧ b < 12 then (if zbit (μ 34 i r) b = true then μ 33 0 (88 + 12 * r + b) else μ 33 0 (16 + 12 * r + b)) else 0
theorem rM_rg {μ : zM} {n i r b : Nat} {B : Nat → Nat} (hH : zHm μ n B) (hr : r < n) (hb : b < B r) : 0 ≤ rM μ i r b ∧ rM μ i r b ≤ 9 := by
  have h := hH.2.2.2 r b hr hb
  have h2 := hH.2.1
  have h3 := (hH.2.2.1 r hr).2.2
  unfold rM
  rw [if_pos ⟨by omega, by omega⟩]
  split
  · exact h.2
  · exact h.1
theorem s_isRoom (d : Nat) (a : Int) (μ : zM) {n : Nat} {B : Nat → Nat} (hH : zHm μ n B) (K : Int → zM → Prop) (h1 : ∀ r : Nat, a = r → r < n → K 1 μ) (h0 : ¬ (0 ≤ a ∧ a < n) → K 0 μ) : zC1 (d + 1) m_X12_isRoom [zR 9 0, zI a] μ K := by
  obtain ⟨e1, e2, e3, -⟩ := hH
  refine k_X12_isRoom d a μ K ⟨by decide, ?_⟩
  rw [e1, z_fix (by omega) (by omega)]
  refine s_in d a 0 _ μ _ (fun q1 q2 => ⟨Or.inr rfl, ?_⟩) (fun q => ⟨Or.inl rfl, h0 (by omega)⟩)
  obtain ⟨r, rfl⟩ := Int.eq_ofNat_of_zero_le q1
  exact h1 r rfl (by omega)
theorem s_isBar (d : Nat) (a b : Int) (μ : zM) {n : Nat} {B : Nat → Nat} (hH : zHm μ n B) (K : Int → zM → Prop) (h1 : ∀ r c : Nat, a = r → b = c → r < n → c < B r → K 1 μ) (h0 : (¬ ∃ r c : Nat, a = r ∧ b = c ∧ r < n ∧ c < B r) → K 0 μ) : zC1 (d + 2) m_X12_isBar [zR 9 0, zI a, zI b] μ K := by
  have hH0 := hH
  obtain ⟨e1, e2, e3, -⟩ := hH
  refine k_X12_isBar (d + 1) a b μ K (s_isRoom d a μ hH0 _ (fun r hr hn => ?_) (fun q => ?_))
  · subst hr
    refine ⟨fun q => absurd q (by decide), fun _ => ?_⟩
    rw [z_i (c := 4) (m := 4 + r) (by omega) (by omega), Int.toNat_natCast, (e3 r hn).1]
    obtain ⟨g1, g2, g3⟩ := e3 r hn
    refine ⟨⟨by omega, by omega⟩, ?_⟩
    rw [z_fix (by omega) (by omega)]
    refine s_in _ b 0 _ μ _ (fun q1 q2 => ⟨fun z => absurd z (by decide), fun _ => ⟨Or.inr rfl, ?_⟩⟩) (fun q => ⟨fun _ => ⟨Or.inl rfl, h0 ?_⟩, fun z => absurd rfl z⟩)
    · obtain ⟨c, rfl⟩ := Int.eq_ofNat_of_zero_le q1
      exact h1 r c rfl rfl hn (by omega)
    · rintro ⟨r', c, g4, g5, g6, g7⟩
      have : r' = r := by omega
      subst this
      omega
  · refine ⟨fun _ => ⟨Or.inl rfl, h0 ?_⟩, fun z => absurd rfl z⟩
    rintro ⟨r', c, g4, g5, g6, g7⟩
    apply q; omega
theorem s_turned (d r b : Nat) (hr : r < 6) (hb : b < 12) (w : Int) (μ : zM) (K : Int → zM → Prop) (h : K (if w = 0 then μ 33 0 (16 + 12 * r + b) else μ 33 0 (88 + 12 * r + b)) μ) : zC1 d m_X12_turned [zR 9 0, zI (r : Int), zI (b : Int), zI w] μ K := by
  have e : w32 (12 * (r : Int)) = ((12 * r : Nat) : Int) := by rw [z_fix (by omega) (by omega)]; omega
  refine k_X12_turned d r b w μ K ⟨fun q => ?_, fun q => ?_⟩
  · rw [if_pos q] at h
    rw [e, z_i (c := 16) (m := 16 + 12 * r) (by omega) (by omega), z_i (m := 16 + 12 * r + b) (by omega) (by omega), Int.toNat_natCast]
    exact ⟨⟨by omega, by omega⟩, h⟩
  · rw [if_neg q] at h
    rw [e, z_i (c := 88) (m := 88 + 12 * r) (by omega) (by omega), z_i (m := 88 + 12 * r + b) (by omega) (by omega), Int.toNat_natCast]
    exact ⟨⟨by omega, by omega⟩, h⟩
theorem s_readsOn (d i r b : Nat) (hr : r < 6) (hb : b < 12) (μ : zM) (hL : zLm μ i) (K : Int → zM → Prop) (h : K (rM μ i r b) μ) : zC1 (d + 1) m_X12_readsOn [zR 9 0, zR 34 i, zI (r : Int), zI (b : Int)] μ K := by
  refine k_X12_readsOn_t34 d i r b μ K ?_
  rw [z_i (c := 0) (m := r) (by omega) (by omega), Int.toNat_natCast]
  refine ⟨⟨by omega, by omega⟩, s_has d _ (zset12_in (hL r hr)) b (by omega) μ _ (s_turned d r b hr hb _ μ _ ?_)⟩
  unfold rM at h
  rw [if_pos ⟨hr, hb⟩] at h
  by_cases q : zbit (μ 34 i r) b = true
  · rw [if_pos q] at h
    rw [if_pos q, if_neg (by decide)]
    exact h
  · rw [if_neg q] at h
    rw [if_neg q, if_pos rfl]
    exact h
theorem s_mreads (d r b : Nat) (hr : r < 6) (hb : b < 12) (μ : zM) (hL : zLm μ 0) (K : Int → zM → Prop) (h : K (rM μ 0 r b) μ) : zC1 (d + 2) m_X12_reads [zR 9 0, zI (r : Int), zI (b : Int)] μ K := k_X12_reads (d + 1) r b μ K (s_readsOn d 0 r b hr hb μ hL _ h)
theorem z_or0 (s : Int) (hs : zin s) : zor s 0 = s := by
  unfold zor
  have : (Int32.ofInt s ||| Int32.ofInt 0) = Int32.ofInt s := by
    show Int32.ofInt s ||| 0 = Int32.ofInt s
    exact Int32.or_zero
  rw [this, z_ti hs]
theorem s_mopen (d : Nat) (μ : zM) {n : Nat} {B : Nat → Nat} (hH : zHm μ n B) (hL : zLm μ 0) (K : Int → zM → Prop) (h : K (zbm (zopn (rM μ 0) B) n) μ) : zC1 (d + 3) m_X12_open [zR 9 0] μ K := by
  obtain ⟨e1, e2, e3, -⟩ := hH
  refine k_X12_open (d + 2) μ K ?_
  have L : ∀ m i : Nat, i + m = n → zJ (d + 3) m_X12_open 4 [some (zR 9 0), some (zI (zbm (zopn (rM μ 0) B) i)), some (zI (i : Int))] μ (zQ1 K) := by
    intro m
    induction m with
    | zero =>
      intro i hi
      refine k_X12_open_4 (d + 2) _ i μ K ⟨by decide, fun _ => ?_, fun q => absurd q (by omega)⟩
      rw [show i = n by omega]
      exact h
    | succ m ih =>
      intro i hi
      obtain ⟨g1, g2, g3⟩ := e3 i (by omega)
      refine k_X12_open_4 (d + 2) _ i μ K ⟨by decide, fun q => absurd q (by omega), fun _ => ?_⟩
      rw [z_i (c := 4) (m := 4 + i) (by omega) (by omega), Int.toNat_natCast, g1, z_fix (show (-2147483648 : Int) ≤ (B i : Int) - 1 by omega) (by omega), show (B i : Int) - 1 = ((B i - 1 : Nat) : Int) by omega]
      refine ⟨⟨by omega, by omega⟩, s_mreads d i (B i - 1) (by omega) (by omega) μ hL _ (s_mreads d i 0 (by omega) (by omega) μ hL _ ?_)⟩
      rw [z_fix (by omega) (by omega), z_or12 (zbm_12 _ (by omega)) (by omega), z_or0 _ (zset12_in (zbm_12 _ (by omega)))]
      have e := ih (i + 1) (by omega)
      rw [zbm_s] at e
      refine ⟨fun q => ?_, fun q => ?_⟩
      · rw [if_pos (by simpa [zopn] using q)] at e
        exact e
      · rw [if_neg (by simpa [zopn] using q)] at e
        exact e
  exact L n 0 (by omega)
theorem s_mkey (d r : Nat) (μ : zM) {n : Nat} {B : Nat → Nat} (hH : zHm μ n B) (hr : r < n) (hL : zLm μ 0) (K : Int → zM → Prop) (h : K (zkey (rM μ 0 r) (B r)) μ) : zC1 (d + 3) m_X12_key [zR 9 0, zI (r : Int)] μ K := by
  have hH0 := hH
  obtain ⟨e1, e2, e3, -⟩ := hH
  obtain ⟨g1, g2, g3⟩ := e3 r hr
  refine k_X12_key (d + 2) r μ K ?_
  have R : ∀ i, i ≤ B r → 0 ≤ zSm (rM μ 0 r) i ∧ zSm (rM μ 0 r) i ≤ 108 := fun i hi => by
    have := zSm_rg (f := rM μ 0 r) (m := 9) (n := i) (fun b hb => rM_rg hH0 hr (by omega))
    omega
  have L : ∀ m i : Nat, i + m = B r → zJ (d + 3) m_X12_key 4 [some (zR 9 0), some (zI (r : Int)), some (zI (zSm (rM μ 0 r) i)), some (zI (i : Int))] μ (zQ1 K) := by
    intro m
    induction m with
    | zero =>
      intro i hi
      refine k_X12_key_4 (d + 2) r _ i μ K ?_
      rw [z_i (c := 4) (m := 4 + r) (by omega) (by omega), Int.toNat_natCast, g1]
      refine ⟨⟨by omega, by omega⟩, fun _ => ⟨by decide, ?_⟩, fun q => absurd q (by omega)⟩
      have hi2 : i = B r := by omega
      subst hi2
      rw [Int.tmod_eq_emod_of_nonneg (R _ (Nat.le_refl _)).1]
      exact h
    | succ m ih =>
      intro i hi
      refine k_X12_key_4 (d + 2) r _ i μ K ?_
      rw [z_i (c := 4) (m := 4 + r) (by omega) (by omega), Int.toNat_natCast, g1]
      refine ⟨⟨by omega, by omega⟩, fun q => absurd q (by omega), fun _ => s_mreads d r i (by omega) (by omega) μ hL _ ?_⟩
      have h1 := R i (by omega)
      have h2 := rM_rg (i := 0) hH0 hr (show i < B r by omega)
      rw [z_fix (by omega) (by omega), z_fix (by omega) (by omega)]
      exact ih (i + 1) (by omega)
  exact L (B r) 0 (by omega)
theorem s_mrepeat (d r : Nat) (μ : zM) {n : Nat} {B : Nat → Nat} (hH : zHm μ n B) (hr : r < n) (hL : zLm μ 0) (K : Int → zM → Prop) (h : K (zrep (rM μ 0 r) (B r)) μ) : zC1 (d + 3) m_X12_repeat [zR 9 0, zI (r : Int)] μ K := by
  obtain ⟨e1, e2, e3, -⟩ := hH
  obtain ⟨g1, g2, g3⟩ := e3 r hr
  refine k_X12_repeat (d + 2) r μ K ?_
  rw [z_i (c := 4) (m := 4 + r) (by omega) (by omega), Int.toNat_natCast, g1]
  refine ⟨⟨by omega, by omega⟩, ?_⟩
  have L : ∀ m p : Nat, p + m = B r → 0 < p → zrep (rM μ 0 r) (B r) = zfro (fun p => zal2 (zrpt (rM μ 0 r) (B r) p) (B r)) m p → zJ (d + 3) m_X12_repeat 11 [some (zR 9 0), some (zI (r : Int)), some (zI (B r : Int)), some (zI (p : Int)), none, none] μ (zQ1 K) := by
    intro m
    induction m with
    | zero =>
      intro p hp h0 ha
      refine k_X12_repeat_11 (d + 2) r (B r) p μ K ⟨fun _ => ?_, fun q => absurd q (by omega)⟩
      rw [ha] at h
      have e : zfro (fun p => zal2 (zrpt (rM μ 0 r) (B r) p) (B r)) 0 p = B r := by unfold zfro; omega
      rw [e] at h
      exact h
    | succ m ih =>
      intro p hp h0 ha
      refine k_X12_repeat_11 (d + 2) r (B r) p μ K ⟨fun q => absurd q (by omega), fun _ => ?_⟩
      have L2 : ∀ m2 i : Nat, i + m2 = B r → zJ (d + 3) m_X12_repeat 22 [some (zR 9 0), some (zI (r : Int)), some (zI (B r : Int)), some (zI (p : Int)), some (zI (if zal2 (zrpt (rM μ 0 r) (B r) p) i = true then 1 else 0)), some (zI (i : Int))] μ (zQ1 K) := by
        intro m2
        induction m2 with
        | zero =>
          intro i hi
          refine k_X12_repeat_22 (d + 2) r (B r) p _ i μ K ⟨fun _ => ?_, fun q => absurd q (by omega)⟩
          rw [show i = B r by omega]
          rw [zfro_s] at ha
          by_cases q : zal2 (zrpt (rM μ 0 r) (B r) p) (B r) = true
          · rw [if_pos q] at ha ⊢
            refine ⟨fun z => absurd z (by decide), fun _ => ?_⟩
            rw [ha] at h
            exact h
          · rw [if_neg q] at ha ⊢
            refine ⟨fun _ => ?_, fun z => absurd rfl z⟩
            rw [z_fix (by omega) (by omega)]
            exact ih (p + 1) (by omega) (by omega) ha
        | succ m2 ih2 =>
          intro i hi
          have e := ih2 (i + 1) (by omega)
          rw [zal2_s] at e
          refine k_X12_repeat_22 (d + 2) r (B r) p _ i μ K ⟨fun q => absurd q (by omega), fun _ => ?_⟩
          rw [z_fix (show (-2147483648 : Int) ≤ (i : Int) + 1 by omega) (by omega)]
          by_cases q : zal2 (zrpt (rM μ 0 r) (B r) p) i = true
          · rw [q, Bool.true_and] at e
            rw [if_pos q]
            refine ⟨fun z => absurd z (by decide), fun _ => s_mreads d r i (by omega) (by omega) μ hL _ ⟨by omega, ?_⟩⟩
            rw [z_fix (by omega) (by omega), show (i : Int) + (p : Int) = ((i + p : Nat) : Int) by omega, ← Int.ofNat_tmod]
            have hm := Nat.mod_lt (i + p) (show 0 < B r by omega)
            refine s_mreads d r ((i + p) % B r) (by omega) (by omega) μ hL _ ⟨fun q2 => ?_, fun q2 => ?_⟩
            · rw [if_neg (by simpa [zrpt] using q2)] at e; exact e
            · rw [if_pos (by simpa [zrpt] using q2)] at e; exact e
          · rw [show zal2 (zrpt (rM μ 0 r) (B r) p) i = false by simpa using q, Bool.false_and, if_neg (by decide)] at e
            rw [if_neg q]
            exact ⟨fun _ => e, fun z => absurd rfl z⟩
      exact L2 (B r) 0 (by omega)
  exact L (B r - 1) 1 (by omega) (by omega) rfl
theorem s_misIn (d r b t k : Nat) (hb : b < 12) (hk : k < 100) (μ : zM) {n : Nat} {B : Nat → Nat} (hH : zHm μ n B) (hr : r < n) (ht : t < n) (hL : zLm μ 0) (K : Int → zM → Prop) (h : K (if rM μ 0 r b = rM μ 0 t ((b + k) % B t) then 1 else 0) μ) : zC1 (d + 3) m_X12_isIn [zR 9 0, zI (r : Int), zI (b : Int), zI (t : Int), zI (k : Int)] μ K := by
  obtain ⟨e1, e2, e3, -⟩ := hH
  obtain ⟨g1, g2, g3⟩ := e3 t ht
  refine k_X12_isIn (d + 2) r b t k μ K (s_mreads d r b (by omega) hb μ hL _ ?_)
  rw [z_i (c := 4) (m := 4 + t) (by omega) (by omega), Int.toNat_natCast, g1]
  refine ⟨⟨by omega, by omega⟩, by omega, ?_⟩
  rw [z_fix (by omega) (by omega), show (b : Int) + (k : Int) = ((b + k : Nat) : Int) by omega, ← Int.ofNat_tmod]
  have hm := Nat.mod_lt (b + k) (show 0 < B t by omega)
  refine s_mreads d t ((b + k) % B t) (by omega) (by omega) μ hL _ ⟨fun q2 => ⟨Or.inl rfl, ?_⟩, fun q2 => ⟨Or.inr rfl, ?_⟩⟩
  · rw [if_neg q2] at h; exact h
  · rw [if_pos (by omega)] at h; exact h
theorem s_inCanon (d r t k : Nat) (hk : k < 100) (μ : zM) {n : Nat} {B : Nat → Nat} (hH : zHm μ n B) (hr : r < n) (ht : t < n) (hL : zLm μ 0) (K : Int → zM → Prop) (h : K (zalk (rM μ 0 r) (rM μ 0 t) (B r) (B t) k) μ) : zC1 (d + 4) m_X12_inCanon [zR 9 0, zI (r : Int), zI (t : Int), zI (k : Int)] μ K := by
  have hH0 := hH
  obtain ⟨e1, e2, e3, -⟩ := hH
  obtain ⟨g1, g2, g3⟩ := e3 r hr
  refine k_X12_inCanon (d + 3) r t k μ K ?_
  have L : ∀ m i : Nat, i + m = B r → zJ (d + 4) m_X12_inCanon 6 [some (zR 9 0), some (zI (r : Int)), some (zI (t : Int)), some (zI (k : Int)), some (zI (zalk (rM μ 0 r) (rM μ 0 t) i (B t) k)), some (zI (i : Int))] μ (zQ1 K) := by
    intro m
    induction m with
    | zero =>
      intro i hi
      refine k_X12_inCanon_6 (d + 3) r t k _ i μ K ?_
      rw [z_i (c := 4) (m := 4 + r) (by omega) (by omega), Int.toNat_natCast, g1]
      refine ⟨⟨by omega, by omega⟩, fun _ => ?_, fun q => absurd q (by omega)⟩
      rw [show i = B r by omega]
      exact h
    | succ m ih =>
      intro i hi
      refine k_X12_inCanon_6 (d + 3) r t k _ i μ K ?_
      rw [z_i (c := 4) (m := 4 + r) (by omega) (by omega), Int.toNat_natCast, g1]
      refine ⟨⟨by omega, by omega⟩, fun q => absurd q (by omega), fun _ => s_misIn d r i t k (by omega) hk μ hH0 hr ht hL _ ?_⟩
      have e := ih (i + 1) (by omega)
      have hg := z01_rg (fun b => rM μ 0 r b = rM μ 0 t ((b + k) % B t)) i
      rw [z_fix (show (-2147483648 : Int) ≤ (i : Int) + 1 by omega) (by omega)]
      unfold zalk at e ⊢
      rw [zSm_s] at e
      by_cases q : rM μ 0 r i = rM μ 0 t ((i + k) % B t)
      · rw [if_pos q] at e ⊢
        refine ⟨fun z => absurd z (by decide), fun _ => ?_⟩
        rw [z_fix (by omega) (by omega)]
        exact e
      · rw [if_neg q] at e ⊢
        refine ⟨fun _ => ?_, fun z => absurd rfl z⟩
        rw [z_fix (by omega) (by omega)]
        exact e
  exact L (B r) 0 (by omega)
