/-! SPECS: what is read of the house and of a life (class) -/
theorem z_ixc {r b c : Nat} (hr : r < 100) (hb : b < 100) (hc : c < 100) : w32 (w32 ((r : Int) * (c : Int)) + (b : Int)) = ((c * r + b : Nat) : Int) := by
  have h1 : r * c < 10000 := by
    have h2 : r * c ≤ 99 * 99 := Nat.mul_le_mul (by omega) (by omega)
    omega
  have e : (r : Int) * (c : Int) = ((r * c : Nat) : Int) := (Int.natCast_mul r c).symm
  rw [e, show w32 ((r * c : Nat) : Int) = ((r * c : Nat) : Int) from z_fix (by omega) (by omega), z_fix (by omega) (by omega), Nat.mul_comm c r]
  omega
theorem z_ix12 {r b : Nat} (hr : r < 100) (hb : b < 100) : w32 (w32 ((r : Int) * 12) + (b : Int)) = ((12 * r + b : Nat) : Int) := z_ixc (c := 12) hr hb (by omega)
theorem z_ix3 {r b : Nat} (hr : r < 100) (hb : b < 100) : w32 (w32 ((r : Int) * 3) + (b : Int)) = ((3 * r + b : Nat) : Int) := z_ixc (c := 3) hr hb (by omega)
theorem z_ix4 {r b : Nat} (hr : r < 100) (hb : b < 100) : w32 (w32 ((r : Int) * 4) + (b : Int)) = ((4 * r + b : Nat) : Int) := z_ixc (c := 4) hr hb (by omega)
def zHc (μ : zM) (n : Nat) (B : Nat → Nat) : Prop := μ 3 0 2 = (n : Int) ∧ n ≤ 6 ∧ (∀ r, r < n → μ 10 0 r = (B r : Int) ∧ 1 ≤ B r ∧ B r ≤ 12) ∧ ∀ r b, r < n → b < B r → (0 ≤ μ 11 0 (12 * r + b) ∧ μ 11 0 (12 * r + b) ≤ 9) ∧ (0 ≤ μ 12 0 (12 * r + b) ∧ μ 12 0 (12 * r + b) ≤ 9)
def zLc (μ : zM) (j : Nat) : Prop := ∀ r, r < 6 → zset12 (μ 15 j r)
/-- what a BAR reads, in a life of the class -/
def rC (μ : zM) (j r b : Nat) : Int := if r < 6 ∧ b < 12 then (if zbit (μ 15 j r) b = true then μ 12 0 (12 * r + b) else μ 11 0 (12 * r + b)) else 0
theorem rC_rg {μ : zM} {n j r b : Nat} {B : Nat → Nat} (hH : zHc μ n B) (hr : r < n) (hb : b < B r) : 0 ≤ rC μ j r b ∧ rC μ j r b ≤ 9 := by
  have h := hH.2.2.2 r b hr hb
  have h2 := hH.2.1
  have h3 := (hH.2.2.1 r hr).2.2
  unfold rC
  rw [if_pos ⟨by omega, by omega⟩]
  split
  · exact h.2
  · exact h.1
theorem s_hasRoom (d j : Nat) (a : Int) (μ : zM) (K : Int → zM → Prop) (h1 : 0 ≤ a → a < μ 3 j 2 → K 1 μ) (h0 : ¬ (0 ≤ a ∧ a < μ 3 j 2) → K 0 μ) : zC1 d m_X1_hasRoom [zR 3 j, zI a] μ K :=
  k_X1_hasRoom d j a μ K ⟨fun q => ⟨Or.inl rfl, h0 (by omega)⟩, fun q => ⟨fun q2 => ⟨Or.inl rfl, h0 (by omega)⟩, fun q2 => ⟨Or.inr rfl, h1 (by omega) (by omega)⟩⟩⟩
theorem s_hasPerson (d j : Nat) (a : Int) (μ : zM) (K : Int → zM → Prop) (h1 : 0 ≤ a → a < μ 3 j 3 → K 1 μ) (h0 : ¬ (0 ≤ a ∧ a < μ 3 j 3) → K 0 μ) : zC1 d m_X1_hasPerson [zR 3 j, zI a] μ K :=
  k_X1_hasPerson d j a μ K ⟨fun q => ⟨Or.inl rfl, h0 (by omega)⟩, fun q => ⟨fun q2 => ⟨Or.inl rfl, h0 (by omega)⟩, fun q2 => ⟨Or.inr rfl, h1 (by omega) (by omega)⟩⟩⟩
theorem s_hasWall (d j : Nat) (a : Int) (μ : zM) (K : Int → zM → Prop) (h1 : 0 ≤ a → a < μ 3 j 4 → K 1 μ) (h0 : ¬ (0 ≤ a ∧ a < μ 3 j 4) → K 0 μ) : zC1 d m_X1_hasWall [zR 3 j, zI a] μ K :=
  k_X1_hasWall d j a μ K ⟨fun q => ⟨Or.inl rfl, h0 (by omega)⟩, fun q => ⟨fun q2 => ⟨Or.inl rfl, h0 (by omega)⟩, fun q2 => ⟨Or.inr rfl, h1 (by omega) (by omega)⟩⟩⟩
theorem s_barsOf (d j r : Nat) (hr : r < 6) (μ : zM) (K : Int → zM → Prop) (h : K (μ 10 j r) μ) : zC1 (d + 1) m_X1_barsOf [zR 3 j, zI (r : Int)] μ K := k_X1_barsOf d j r μ K (s_at_10 d j r hr μ _ h)
theorem s_hasBar (d : Nat) (a b : Int) (μ : zM) {n : Nat} {B : Nat → Nat} (hH : zHc μ n B) (K : Int → zM → Prop) (h1 : ∀ r c : Nat, a = r → b = c → r < n → c < B r → K 1 μ) (h0 : (¬ ∃ r c : Nat, a = r ∧ b = c ∧ r < n ∧ c < B r) → K 0 μ) : zC1 (d + 2) m_X1_hasBar [zR 3 0, zI a, zI b] μ K := by
  obtain ⟨e1, e2, e3, -⟩ := hH
  refine k_X1_hasBar (d + 1) 0 a b μ K (s_hasRoom _ 0 a μ _ (fun q1 q2 => ?_) (fun q => ?_))
  · rw [e1] at q2
    obtain ⟨r, rfl⟩ := Int.eq_ofNat_of_zero_le q1
    have hr : r < n := by omega
    refine ⟨fun q => absurd q (by decide), fun _ => ⟨fun q => ⟨Or.inl rfl, h0 ?_⟩, fun q => s_barsOf d 0 r (by omega) μ _ ?_⟩⟩
    · rintro ⟨r', c, g1, g2, -⟩; omega
    · rw [(e3 r hr).1]
      refine ⟨fun q2 => ⟨Or.inl rfl, h0 ?_⟩, fun q2 => ⟨Or.inr rfl, ?_⟩⟩
      · rintro ⟨r', c, g1, g2, g3, g4⟩
        have : r' = r := by omega
        subst this
        omega
      · obtain ⟨c, rfl⟩ := Int.eq_ofNat_of_zero_le (show 0 ≤ b by omega)
        exact h1 r c rfl rfl hr (by omega)
  · refine ⟨fun _ => ⟨Or.inl rfl, h0 ?_⟩, fun q2 => absurd rfl q2⟩
    rintro ⟨r', c, g1, g2, g3, g4⟩
    apply q
    omega
theorem s_paperOf (d j r b : Nat) (hr : r < 6) (hb : b < 12) (μ : zM) (K : Int → zM → Prop) (h : K (μ 11 j (12 * r + b)) μ) : zC1 (d + 1) m_X1_paperOf [zR 3 j, zI (r : Int), zI (b : Int)] μ K := by
  refine k_X1_paperOf d j r b μ K ?_
  rw [z_ix12 (by omega) (by omega)]
  exact s_at_11 d j _ (by omega) μ _ h
theorem s_underOf (d j r b : Nat) (hr : r < 6) (hb : b < 12) (μ : zM) (K : Int → zM → Prop) (h : K (μ 12 j (12 * r + b)) μ) : zC1 (d + 1) m_X1_underOf [zR 3 j, zI (r : Int), zI (b : Int)] μ K := by
  refine k_X1_underOf d j r b μ K ?_
  rw [z_ix12 (by omega) (by omega)]
  exact s_at_12 d j _ (by omega) μ _ h
theorem s_personPart (d j p w : Nat) (hp : p < 5) (hw : w < 3) (μ : zM) (K : Int → zM → Prop) (h : K (μ 13 j (3 * p + w)) μ) : zC1 (d + 1) m_X1_personPart [zR 3 j, zI (p : Int), zI (w : Int)] μ K := by
  refine k_X1_personPart d j p w μ K ?_
  rw [z_ix3 (by omega) (by omega)]
  exact s_at_13 d j _ (by omega) μ _ h
theorem s_wallPart (d j p w : Nat) (hp : p < 6) (hw : w < 4) (μ : zM) (K : Int → zM → Prop) (h : K (μ 14 j (4 * p + w)) μ) : zC1 (d + 1) m_X1_wallPart [zR 3 j, zI (p : Int), zI (w : Int)] μ K := by
  refine k_X1_wallPart d j p w μ K ?_
  rw [z_ix4 (by omega) (by omega)]
  exact s_at_14 d j _ (by omega) μ _ h
theorem s_isIn (d : Nat) (s : Int) (hs : zin s) (k : Nat) (hk : k < 31) (μ : zM) (K : Int → zM → Prop) (h : K (if zbit s k = true then 1 else 0) μ) : zC1 d m_X9_isIn [zI s, zI (k : Int)] μ K := by
  refine k_X9_isIn d s k μ K ⟨fun q => absurd q (by omega), fun _ => ⟨fun q => absurd q (by omega), fun _ => ⟨fun q => ⟨Or.inl rfl, ?_⟩, fun q => ⟨Or.inr rfl, ?_⟩⟩⟩⟩
  · have : ¬ zbit s k = true := fun z => q ((z_has1 hs (by omega)).mpr z)
    rw [if_neg this] at h; exact h
  · have : zbit s k = true := (z_has1 hs (by omega)).mp (Classical.byContradiction fun z => q z)
    rw [if_pos this] at h; exact h
theorem s_isLifted (d j r b : Nat) (hr : r < 6) (hb : b < 12) (μ : zM) (hL : zLc μ j) (K : Int → zM → Prop) (h : K (if zbit (μ 15 j r) b = true then 1 else 0) μ) : zC1 (d + 1) m_X3_isLifted [zR 4 j, zI (r : Int), zI (b : Int)] μ K := by
  refine k_X3_isLifted d j r b μ K (s_at_15 d j r hr μ _ (s_isIn d _ (zset12_in (hL r hr)) b (by omega) μ _ ⟨?_, h⟩))
  split
  · exact Or.inr rfl
  · exact Or.inl rfl
theorem s_liftedIn (d j r : Nat) (hr : r < 6) (μ : zM) (K : Int → zM → Prop) (h : K (μ 15 j r) μ) : zC1 (d + 1) m_X3_liftedIn [zR 4 j, zI (r : Int)] μ K := k_X3_liftedIn d j r μ K (s_at_15 d j r hr μ _ h)
theorem s_reads (d j r b : Nat) (hr : r < 6) (hb : b < 12) (μ : zM) (hL : zLc μ j) (K : Int → zM → Prop) (h : K (rC μ j r b) μ) : zC1 (d + 2) m_X3_reads [zR 4 j, zI (r : Int), zI (b : Int)] μ K := by
  refine k_X3_reads (d + 1) j r b μ K (s_isLifted d j r b hr hb μ hL _ ?_)
  unfold rC at h
  rw [if_pos ⟨hr, hb⟩] at h
  by_cases q : zbit (μ 15 j r) b = true
  · rw [if_pos q] at h ⊢
    exact ⟨fun z => absurd z (by decide), fun _ => s_underOf d 0 r b hr hb μ _ h⟩
  · rw [if_neg q] at h ⊢
    exact ⟨fun _ => s_paperOf d 0 r b hr hb μ _ h, fun z => absurd rfl z⟩
theorem s_leftOver (d : Nat) (a : Nat) (b : Nat) (hb : 0 < b) (μ : zM) (K : Int → zM → Prop) (h : K ((a % b : Nat) : Int) μ) : zC1 d m_X9_leftOver [zI (a : Int), zI (b : Int)] μ K := by
  refine k_X9_leftOver d a b μ K ⟨fun q => absurd q (by omega), fun _ => ⟨by omega, ?_⟩⟩
  rw [← Int.ofNat_tmod]
  exact h
theorem s_readsRound (d j r b : Nat) (μ : zM) {n : Nat} {B : Nat → Nat} (hH : zHc μ n B) (hr : r < n) (hL : zLc μ j) (K : Int → zM → Prop) (h : K (rC μ j r (b % B r)) μ) : zC1 (d + 3) m_X3_readsRound [zR 4 j, zI (r : Int), zI (b : Int)] μ K := by
  obtain ⟨e1, e2, e3, -⟩ := hH
  obtain ⟨g1, g2, g3⟩ := e3 r hr
  refine k_X3_readsRound (d + 2) j r b μ K (s_barsOf (d + 1) 0 r (by omega) μ _ ?_)
  rw [g1]
  have := Nat.mod_lt b (show 0 < B r by omega)
  exact s_leftOver _ b (B r) (by omega) μ _ (s_reads d j r (b % B r) (by omega) (by omega) μ hL _ h)
theorem s_roomOf (d j p : Nat) (hp : p < 5) (μ : zM) (K : Int → zM → Prop) (h : K (μ 16 j p) μ) : zC1 (d + 1) m_X3_roomOf [zR 4 j, zI (p : Int)] μ K := k_X3_roomOf d j p μ K (s_at_16 d j p hp μ _ h)
theorem s_placeOf (d j p : Nat) (hp : p < 5) (μ : zM) (K : Int → zM → Prop) (h : K (μ 17 j p) μ) : zC1 (d + 1) m_X3_placeOf [zR 4 j, zI (p : Int)] μ K := k_X3_placeOf d j p μ K (s_at_17 d j p hp μ _ h)
theorem s_paceOf (d j p : Nat) (hp : p < 5) (μ : zM) (K : Int → zM → Prop) (h : K (μ 18 j p) μ) : zC1 (d + 1) m_X3_paceOf [zR 4 j, zI (p : Int)] μ K := k_X3_paceOf d j p μ K (s_at_18 d j p hp μ _ h)
theorem s_readBy (d j p r b : Nat) (hp : p < 5) (μ : zM) (hL : zLc μ j) (h1 : μ 16 j p = (r : Int)) (h2 : μ 17 j p = (b : Int)) (hr : r < 6) (hb : b < 12) (K : Int → zM → Prop) (h : K (rC μ j r b) μ) : zC1 (d + 3) m_X3_readBy [zR 4 j, zI (p : Int)] μ K := by
  refine k_X3_readBy (d + 2) j p μ K (s_roomOf (d + 1) j p hp μ _ (s_placeOf (d + 1) j p hp μ _ ?_))
  rw [h1, h2]
  exact s_reads d j r b hr hb μ hL _ h
theorem s_isAt (d j p : Nat) (hp : p < 5) (r b : Int) (μ : zM) (K : Int → zM → Prop) (h1 : μ 16 j p = r → μ 17 j p = b → K 1 μ) (h0 : ¬ (μ 16 j p = r ∧ μ 17 j p = b) → K 0 μ) : zC1 (d + 1) m_X3_isAt [zR 4 j, zI (p : Int), zI r, zI b] μ K := by
  refine k_X3_isAt d j p r b μ K (s_at_16 d j p hp μ _ ⟨fun q => ⟨Or.inl rfl, h0 fun z => q z.1⟩, fun q => s_at_17 d j p hp μ _ ⟨fun q2 => ⟨Or.inl rfl, h0 fun z => q2 z.2⟩, fun q2 => ⟨Or.inr rfl, h1 (by omega) (by omega)⟩⟩⟩)
/-- the KEY -/
def zkey (f : Nat → Int) (n : Nat) : Int := zSm f n % 12
theorem s_keyOf (d j r : Nat) (μ : zM) {n : Nat} {B : Nat → Nat} (hH : zHc μ n B) (hr : r < n) (hL : zLc μ j) (K : Int → zM → Prop) (h : K (zkey (rC μ j r) (B r)) μ) : zC1 (d + 3) m_X8_keyOf [zR 4 j, zI (r : Int)] μ K := by
  have hH0 := hH
  obtain ⟨e1, e2, e3, -⟩ := hH
  obtain ⟨g1, g2, g3⟩ := e3 r hr
  refine k_X8_keyOf (d + 2) j r μ K (s_barsOf (d + 1) 0 r (by omega) μ _ ?_)
  rw [g1]
  have R : ∀ i, i ≤ B r → 0 ≤ zSm (rC μ j r) i ∧ zSm (rC μ j r) i ≤ 108 := fun i hi => by
    have := zSm_rg (f := rC μ j r) (m := 9) (n := i) (fun b hb => rC_rg hH0 hr (by omega))
    omega
  have L : ∀ m i : Nat, i + m = B r → zJ (d + 3) m_X8_keyOf 14 [some (zR 4 j), some (zI (r : Int)), some (zI (zSm (rC μ j r) i)), some (zI (B r : Int)), some (zI (i : Int))] μ (zQ1 K) := by
    intro m
    induction m with
    | zero =>
      intro i hi
      refine k_X8_keyOf_14 (d + 2) j r _ (B r) i μ K ⟨fun _ => ⟨by decide, ?_⟩, fun q => absurd q (by omega)⟩
      have hi2 : i = B r := by omega
      subst hi2
      rw [Int.tmod_eq_emod_of_nonneg (R _ (Nat.le_refl _)).1]
      exact h
    | succ m ih =>
      intro i hi
      refine k_X8_keyOf_14 (d + 2) j r _ (B r) i μ K ⟨fun q => absurd q (by omega), fun _ => s_reads d j r i (by omega) (by omega) μ hL _ ?_⟩
      have h1 := R i (by omega)
      have h2 := rC_rg (j := j) hH0 hr (show i < B r by omega)
      rw [z_fix (by omega) (by omega), z_fix (by omega) (by omega)]
      exact ih (i + 1) (by omega)
  exact L (B r) 0 (by omega)
