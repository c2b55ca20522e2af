/-! THE RELATION between the class's memory and the model's -/
def zmi (a b : Nat) : Nat := if a < b then a else b
/-- the house -/
def zHs (μ : zM) (n : Nat) (B : Nat → Nat) (nP nW : Nat) : Prop :=
  zHc μ n B ∧ zHm μ n B ∧ (∀ k, k < 72 → μ 11 0 k = μ 33 0 (16 + k)) ∧ (∀ k, k < 72 → μ 12 0 k = μ 33 0 (88 + k)) ∧
  (μ 33 0 199 = μ 3 0 0 ∧ (μ 3 0 0 = 0 ∨ μ 3 0 0 = 1)) ∧ (μ 33 0 0 = μ 3 0 1 ∧ 0 ≤ μ 3 0 1 ∧ μ 3 0 1 ≤ 99) ∧
  (zset12 (μ 3 0 5) ∧ ∀ r, r < n → μ 33 0 (10 + r) = if zbit (μ 3 0 5) r = true then 1 else 0) ∧
  (μ 3 0 3 = (nP : Int) ∧ μ 33 0 2 = (nP : Int) ∧ nP ≤ 5 ∧ ∀ p w, p < nP → w < 3 → μ 33 0 (160 + 5 * w + p) = μ 13 0 (3 * p + w)) ∧
  (∀ p, p < nP → ∃ r b g : Nat, μ 13 0 (3 * p) = (r : Int) ∧ μ 13 0 (3 * p + 1) = (b : Int) ∧ μ 13 0 (3 * p + 2) = (g : Int) ∧ r < n ∧ b < B r ∧ g < 10) ∧
  (μ 3 0 4 = (nW : Int) ∧ μ 33 0 3 = (nW : Int) ∧ nW ≤ 6 ∧ ∀ w c, w < nW → c < 4 → μ 33 0 (175 + 6 * c + w) = μ 14 0 (4 * w + c)) ∧
  (μ 3 0 0 = 0 → n = 0 ∧ nP = 0 ∧ nW = 0)
/-- a life j of the class, and the 44 numbers of the model that stand at (T, i) from o on -/
def zLR (μ : zM) (n : Nat) (B : Nat → Nat) (nP : Nat) (j T i o : Nat) : Prop :=
  (μ T i (o + 22) = μ 4 j 1 ∧ 0 ≤ μ 4 j 1 ∧ μ 4 j 1 ≤ 90030) ∧ (μ T i (o + 21) = μ 4 j 2 ∧ 0 ≤ μ 4 j 2 ∧ μ 4 j 2 ≤ 999999) ∧
  (∃ M : Nat, μ 4 j 3 = (M : Int) ∧ (M : Int) ≤ 150 * μ 4 j 1 ∧ μ T i (o + 23) = ((zmi M 20 : Nat) : Int) ∧ ∀ k, k < zmi M 20 → μ T i (o + 24 + k) = μ 19 j ((M - zmi M 20 + k) % 20) ∧ 0 ≤ μ 19 j ((M - zmi M 20 + k) % 20) ∧ μ 19 j ((M - zmi M 20 + k) % 20) < 700) ∧
  (∀ r, r < 6 → μ T i (o + r) = μ 15 j r ∧ zset12 (μ 15 j r) ∧ (n ≤ r → μ 15 j r = 0)) ∧
  (∀ p, p < nP → (μ T i (o + 6 + p) = μ 16 j p ∧ μ T i (o + 11 + p) = μ 17 j p ∧ μ T i (o + 16 + p) = μ 18 j p) ∧ ∃ r b g : Nat, μ 16 j p = (r : Int) ∧ μ 17 j p = (b : Int) ∧ μ 18 j p = (g : Int) ∧ r < n ∧ b < B r ∧ g < 10)
/-- the text and its fault -/
def zTx (μ : zM) : Prop := ∃ L : Nat, μ 2 0 2 = (L : Int) ∧ μ 9 0 10 = (L : Int) ∧ L ≤ 240 ∧ (∀ k, k < L → μ 38 0 k = μ 20 0 k ∧ 0 ≤ μ 20 0 k ∧ μ 20 0 k ≤ 255) ∧ μ 9 0 11 = μ 2 0 6
/-- what was undone: k-th oldest -/
def zPs (μ : zM) (n : Nat) (B : Nat → Nat) (nP : Nat) : Prop := ∃ N X : Nat, μ 5 0 1 = (N : Int) ∧ μ 9 0 5 = (N : Int) ∧ N ≤ 30 ∧ μ 5 0 2 = (X : Int) ∧ X < 30 ∧ ∀ k, k < N → zLR μ n B nP (2 + (X + 30 - N + k) % 30) 35 0 (44 * k)
def zIm (μ : zM) (n : Nat) (B : Nat → Nat) (nP : Nat) : Prop := (0 ≤ μ 6 0 2 ∧ μ 6 0 2 < 4) ∧ ∀ i, i < 2 → μ 37 0 i = (if zbit (μ 6 0 2) i = true then 1 else 0) ∧ (zbit (μ 6 0 2) i = true → zLR μ n B nP (32 + i) 36 0 (45 * i) ∧ μ 36 0 (45 * i + 44) = μ 23 0 i ∧ 0 ≤ μ 23 0 i ∧ μ 23 0 i < 2147483648)
def zCh (μ : zM) : Prop := μ 9 0 8 = μ 1 0 8 ∧ 0 ≤ μ 1 0 8 ∧ μ 1 0 8 < 2147483648
def zSg (μ : zM) : Prop := ∃ N : Nat, μ 7 0 7 = (N : Int) ∧ μ 9 0 13 = (N : Int) ∧ N ≤ 6 ∧ ∀ k, k < N → (μ 39 0 (2 * k) = μ 24 0 k ∧ 0 ≤ μ 24 0 k ∧ μ 24 0 k ≤ 11) ∧ (μ 39 0 (2 * k + 1) = μ 25 0 k ∧ 0 ≤ μ 25 0 k ∧ μ 25 0 k ≤ 9)
def zBk (μ : zM) (n : Nat) (B : Nat → Nat) : Prop := ∃ N : Nat, μ 7 0 8 = (N : Int) ∧ μ 9 0 15 = (N : Int) ∧ N ≤ 20 ∧ ∀ k, k < N → ∃ r b x : Nat, (μ 26 0 k = (r : Int) ∧ μ 27 0 k = (b : Int) ∧ μ 28 0 k = (x : Int)) ∧ (μ 40 0 (3 * k) = (r : Int) ∧ μ 40 0 (3 * k + 1) = (b : Int) ∧ μ 40 0 (3 * k + 2) = (x : Int)) ∧ r < n ∧ b < B r ∧ x < 10
def zRel (μ : zM) : Prop := ∃ (n : Nat) (B : Nat → Nat) (nP nW : Nat), zHs μ n B nP nW ∧ (zLR μ n B nP 0 34 0 0 ∧ μ 4 0 1 ≤ 90030) ∧ zTx μ ∧ zPs μ n B nP ∧ zIm μ n B nP ∧ zCh μ ∧ zSg μ ∧ zBk μ n B
/-- the answers of both, and the relation behind them -/
def zAsk (f g : Nat) (as : List zV) (μ : zM) : Prop := zC1 8 f (zR 1 0 :: as) μ (fun x μ1 => zC1 8 g (zR 9 0 :: as) μ1 (fun y μ2 => x = y ∧ zRel μ2))
theorem zLR_c {μ : zM} {n : Nat} {B : Nat → Nat} {nP j T i o : Nat} (h : zLR μ n B nP j T i o) : zLc μ j := fun r hr => (h.2.2.2.1 r hr).2.1
theorem zLR_m {μ : zM} {n : Nat} {B : Nat → Nat} {nP j i : Nat} (h : zLR μ n B nP j 34 i 0) : zLm μ i := fun r hr => by
  obtain ⟨h1, h2, -⟩ := h.2.2.2.1 r hr
  rw [Nat.zero_add] at h1
  rw [h1]; exact h2
theorem zrd_eq {μ : zM} {n : Nat} {B : Nat → Nat} {nP nW j i : Nat} (hH : zHs μ n B nP nW) (h : zLR μ n B nP j 34 i 0) : rM μ i = rC μ j := by
  obtain ⟨-, -, h1, h2, -⟩ := hH
  funext r b
  unfold rM rC
  by_cases q : r < 6 ∧ b < 12
  · have h3 := (h.2.2.2.1 r q.1).1
    rw [Nat.zero_add] at h3
    rw [if_pos q, if_pos q, h3, h1 (12 * r + b) (by omega), h2 (12 * r + b) (by omega), show 88 + 12 * r + b = 88 + (12 * r + b) by omega, show 16 + 12 * r + b = 16 + (12 * r + b) by omega]
  · rw [if_neg q, if_neg q]
theorem s_beyond (d : Nat) (a m : Int) (μ : zM) (K : Int → zM → Prop) (h0 : 0 ≤ a → a ≤ m → K 0 μ) (h1 : ¬ (0 ≤ a ∧ a ≤ m) → K 1 μ) : zC1 d m_X11_beyond [zI a, zI m] μ K :=
  k_X11_beyond d a m μ K ⟨fun q => ⟨Or.inr rfl, h1 (by omega)⟩, fun q => ⟨fun q2 => ⟨Or.inl rfl, h0 (by omega) q2⟩, fun q2 => ⟨Or.inr rfl, h1 (by omega)⟩⟩⟩
theorem s_areTwoRooms (d : Nat) (a b : Int) (μ : zM) {n : Nat} {B : Nat → Nat} (hH : zHc μ n B) (K : Int → zM → Prop) (h1 : ∀ r t : Nat, a = r → b = t → r < n → t < n → r ≠ t → K 1 μ) (h0 : ¬ ((0 ≤ a ∧ a < n) ∧ (0 ≤ b ∧ b < n) ∧ a ≠ b) → K 0 μ) : zC1 (d + 1) m_X11_areTwoRooms [zR 1 0, zI a, zI b] μ K := by
  obtain ⟨e1, -⟩ := hH
  refine k_X11_areTwoRooms d a b μ K (s_hasRoom d 0 a μ _ (fun q1 q2 => ?_) (fun q => ?_))
  · rw [e1] at q2
    refine ⟨fun z => absurd z (by decide), fun _ => s_hasRoom d 0 b μ _ (fun q3 q4 => ?_) (fun q => ?_)⟩
    · rw [e1] at q4
      refine ⟨fun z => absurd z (by decide), fun _ => ⟨fun q => ⟨Or.inl rfl, h0 (by omega)⟩, fun q => ⟨Or.inr rfl, ?_⟩⟩⟩
      obtain ⟨r, rfl⟩ := Int.eq_ofNat_of_zero_le q1
      obtain ⟨t, rfl⟩ := Int.eq_ofNat_of_zero_le q3
      exact h1 r t rfl rfl (by omega) (by omega) (by omega)
    · rw [e1] at q
      exact ⟨fun _ => ⟨Or.inl rfl, h0 (by omega)⟩, fun z => absurd rfl z⟩
  · rw [e1] at q
    exact ⟨fun _ => ⟨Or.inl rfl, h0 (by omega)⟩, fun z => absurd rfl z⟩
theorem s_areTwo (d : Nat) (a b : Int) (μ : zM) {n : Nat} {B : Nat → Nat} (hH : zHm μ n B) (K : Int → zM → Prop) (h1 : ∀ r t : Nat, a = r → b = t → r < n → t < n → r ≠ t → K 1 μ) (h0 : ¬ ((0 ≤ a ∧ a < n) ∧ (0 ≤ b ∧ b < n) ∧ a ≠ b) → K 0 μ) : zC1 (d + 2) m_X12_areTwo [zR 9 0, zI a, zI b] μ K := by
  refine k_X12_areTwo (d + 1) a b μ K (s_isRoom d a μ hH _ (fun r hr hn => ?_) (fun q => ?_))
  · refine ⟨fun z => absurd z (by decide), fun _ => s_isRoom d b μ hH _ (fun t ht hn2 => ?_) (fun q => ?_)⟩
    · exact ⟨fun z => absurd z (by decide), fun _ => ⟨fun q => ⟨Or.inl rfl, h0 (by omega)⟩, fun q => ⟨Or.inr rfl, h1 r t hr ht hn hn2 (by omega)⟩⟩⟩
    · exact ⟨fun _ => ⟨Or.inl rfl, h0 (by omega)⟩, fun z => absurd rfl z⟩
  · exact ⟨fun _ => ⟨Or.inl rfl, h0 (by omega)⟩, fun z => absurd rfl z⟩
theorem zrd0 {μ : zM} (h : zRel μ) : ∃ (n : Nat) (B : Nat → Nat) (nP nW : Nat), zHs μ n B nP nW ∧ zLR μ n B nP 0 34 0 0 ∧ zHc μ n B ∧ zHm μ n B ∧ zLc μ 0 ∧ zLm μ 0 ∧ rM μ 0 = rC μ 0 := by
  obtain ⟨n, B, nP, nW, h1, ⟨h2, -⟩, -⟩ := h
  exact ⟨n, B, nP, nW, h1, h2, h1.1, h1.2.1, zLR_c h2, zLR_m h2, zrd_eq h1 h2⟩
/-! queries of two ROOMS -/
theorem q_canon (μ : zM) (hR : zRel μ) (a b k : Int) : zAsk m_X11_canon m_X12_canon [zI a, zI b, zI k] μ := by
  obtain ⟨n, B, nP, nW, hHs, hLR, hC, hM, hLc, hLm, he⟩ := zrd0 hR
  refine k_X11_canon 7 a b k μ _ (s_areTwoRooms 6 a b μ hC _ (fun r t hr ht hrn htn hne => ?_) (fun q => ?_))
  · subst hr; subst ht
    refine ⟨fun _ => s_beyond _ k 11 μ _ (fun q1 q2 => ⟨fun _ => ?_, fun z => absurd rfl z⟩) (fun q => ⟨fun z => absurd z (by decide), fun _ => ?_⟩), fun z => absurd (show (1 : Int) ≠ 0 by decide) z⟩
    · obtain ⟨k, rfl⟩ := Int.eq_ofNat_of_zero_le q1
      refine s_alike 3 0 r t k (by omega) μ hC hrn htn hLc _ ?_
      refine k_X12_canon 7 r t k μ _ (s_areTwo 5 r t μ hM _ (fun r' t' h1 h2 _ _ _ => ⟨fun _ => s_in _ _ _ _ μ _ (fun _ _ => ⟨fun z => absurd z (by decide), fun _ => s_inCanon 3 r t k (by omega) μ hM hrn htn hLm _ ?_⟩) (fun q => absurd q (by omega)), fun z => absurd (show (1 : Int) ≠ 0 by decide) z⟩) (fun q => absurd q (by omega)))
      exact ⟨by rw [he], hR⟩
    · refine k_X12_canon 7 r t k μ _ (s_areTwo 5 r t μ hM _ (fun r' t' h1 h2 _ _ _ => ⟨fun _ => s_in _ _ _ _ μ _ (fun _ _ => absurd q (by omega)) (fun q => ⟨fun _ => ⟨rfl, hR⟩, fun z => absurd rfl z⟩), fun z => absurd (show (1 : Int) ≠ 0 by decide) z⟩) (fun q => absurd q (by omega)))
  · refine ⟨fun z => absurd rfl z, fun _ => ?_⟩
    exact k_X12_canon 7 a b k μ _ (s_areTwo 5 a b μ hM _ (fun r t h1 h2 h3 h4 h5 => absurd q (by omega)) (fun _ => ⟨fun z => absurd rfl z, fun _ => ⟨rfl, hR⟩⟩))
theorem q_join (μ : zM) (hR : zRel μ) (a b : Int) : zAsk m_X11_join m_X12_join [zI a, zI b] μ := by
  obtain ⟨n, B, nP, nW, hHs, hLR, hC, hM, hLc, hLm, he⟩ := zrd0 hR
  refine k_X11_join 7 a b μ _ (s_areTwoRooms 6 a b μ hC _ (fun r t hr ht hrn htn hne => ?_) (fun q => ?_))
  · subst hr; subst ht
    refine ⟨fun _ => s_sharedEnd 3 0 r t μ hC hrn htn hLc _ ?_, fun z => absurd (show (1 : Int) ≠ 0 by decide) z⟩
    refine k_X12_join 7 r t μ _ (s_areTwo 5 r t μ hM _ (fun r' t' h1 h2 _ _ _ => ⟨fun z => absurd z (by decide), fun _ => s_joinOf 4 r t μ hM hrn htn hLm _ ?_⟩) (fun q => absurd q (by omega)))
    exact ⟨by rw [he], hR⟩
  · refine ⟨fun z => absurd rfl z, fun _ => ?_⟩
    exact k_X12_join 7 a b μ _ (s_areTwo 5 a b μ hM _ (fun r t h1 h2 h3 h4 h5 => absurd q (by omega)) (fun _ => ⟨fun _ => ⟨rfl, hR⟩, fun z => absurd rfl z⟩))
