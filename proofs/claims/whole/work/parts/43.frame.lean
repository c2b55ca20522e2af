/-! FRAMES: what the relation does not look at -/
theorem zHc_cg {μ μ' : zM} {n : Nat} {B : Nat → Nat} (h : ∀ t k, t = 3 ∨ 10 ≤ t ∧ t ≤ 14 → μ' t 0 k = μ t 0 k) (q : zHc μ n B) : zHc μ' n B := by
  obtain ⟨h1, h2, h3, h4⟩ := q
  refine ⟨by rw [h 3 _ (by omega)]; exact h1, h2, fun r hr => by rw [h 10 _ (by omega)]; exact h3 r hr, fun r b hr hb => by rw [h 11 _ (by omega), h 12 _ (by omega)]; exact h4 r b hr hb⟩
theorem zHm_cg {μ μ' : zM} {n : Nat} {B : Nat → Nat} (h : ∀ k, μ' 33 0 k = μ 33 0 k) (q : zHm μ n B) : zHm μ' n B := by
  obtain ⟨h1, h2, h3, h4⟩ := q
  refine ⟨by rw [h]; exact h1, h2, fun r hr => by rw [h]; exact h3 r hr, fun r b hr hb => by rw [h, h]; exact h4 r b hr hb⟩
theorem zHs_cg {μ μ' : zM} {n : Nat} {B : Nat → Nat} {nP nW : Nat} (h : ∀ t k, t = 3 ∨ 10 ≤ t ∧ t ≤ 14 → μ' t 0 k = μ t 0 k) (g : ∀ k, μ' 33 0 k = μ 33 0 k) (q : zHs μ n B nP nW) : zHs μ' n B nP nW := by
  obtain ⟨h1, h2, h3, h4, h5, h6, h7, h8, h9, h10, h11⟩ := q
  have e3 : ∀ k, μ' 3 0 k = μ 3 0 k := fun k => h 3 k (by omega)
  refine ⟨zHc_cg h h1, zHm_cg g h2, fun k hk => by rw [h 11 _ (by omega), g]; exact h3 k hk, fun k hk => by rw [h 12 _ (by omega), g]; exact h4 k hk, by rw [g, e3]; exact h5, by rw [g, e3]; exact h6, ⟨by rw [e3]; exact h7.1, fun r hr => by rw [g, e3]; exact h7.2 r hr⟩, ⟨by rw [e3]; exact h8.1, by rw [g]; exact h8.2.1, h8.2.2.1, fun p w hp hw => by rw [g, h 13 _ (by omega)]; exact h8.2.2.2 p w hp hw⟩, fun p hp => ?_, ⟨by rw [e3]; exact h10.1, by rw [g]; exact h10.2.1, h10.2.2.1, fun p w hp hw => by rw [g, h 14 _ (by omega)]; exact h10.2.2.2 p w hp hw⟩, by rw [e3]; exact h11⟩
  rw [h 13 _ (by omega), h 13 _ (by omega), h 13 _ (by omega)]
  exact h9 p hp
theorem zLR_cg {μ μ' : zM} {n : Nat} {B : Nat → Nat} {nP j T i o T' i' o' : Nat} (hp5 : nP ≤ 5) (h : ∀ t k, t = 4 ∨ 15 ≤ t ∧ t ≤ 19 → μ' t j k = μ t j k) (g : ∀ k, k < 44 → μ' T' i' (o' + k) = μ T i (o + k)) (q : zLR μ n B nP j T i o) : zLR μ' n B nP j T' i' o' := by
  obtain ⟨h1, h2, ⟨M, m1, m2, m3, m4⟩, h4, h5⟩ := q
  have e4 : ∀ k, μ' 4 j k = μ 4 j k := fun k => h 4 k (by omega)
  have hz : zmi M 20 ≤ 20 := by unfold zmi; split <;> omega
  refine ⟨by rw [e4, g 22 (by omega)]; exact h1, by rw [e4, g 21 (by omega)]; exact h2, ⟨M, by rw [e4]; exact m1, by rw [e4]; exact m2, by rw [g 23 (by omega)]; exact m3, fun k hk => ?_⟩, fun r hr => ?_, fun p hp => ?_⟩
  · rw [h 19 _ (by omega), show o' + 24 + k = o' + (24 + k) by omega, g _ (by omega), show o + (24 + k) = o + 24 + k by omega]
    exact m4 k hk
  · rw [h 15 _ (by omega), g _ (by omega)]; exact h4 r hr
  · obtain ⟨a1, r, b, x, a2⟩ := h5 p hp
    refine ⟨?_, r, b, x, ?_⟩
    · rw [h 16 _ (by omega), h 17 _ (by omega), h 18 _ (by omega), show o' + 6 + p = o' + (6 + p) by omega, show o' + 11 + p = o' + (11 + p) by omega, show o' + 16 + p = o' + (16 + p) by omega, g _ (by omega), g _ (by omega), g _ (by omega), ← Nat.add_assoc, ← Nat.add_assoc, ← Nat.add_assoc]
      exact a1
    · rw [h 16 _ (by omega), h 17 _ (by omega), h 18 _ (by omega)]; exact a2
theorem zTx_cg {μ μ' : zM} (h1 : μ' 2 0 2 = μ 2 0 2) (h2 : μ' 9 0 10 = μ 9 0 10) (h3 : ∀ k, μ' 38 0 k = μ 38 0 k) (h4 : ∀ k, μ' 20 0 k = μ 20 0 k) (h5 : μ' 9 0 11 = μ 9 0 11) (h6 : μ' 2 0 6 = μ 2 0 6) (q : zTx μ) : zTx μ' := by
  obtain ⟨L, a1, a2, a3, a4, a5⟩ := q
  exact ⟨L, by rw [h1]; exact a1, by rw [h2]; exact a2, a3, fun k hk => by rw [h3, h4]; exact a4 k hk, by rw [h5, h6]; exact a5⟩
theorem zPs_cg {μ μ' : zM} {n : Nat} {B : Nat → Nat} {nP : Nat} (hp5 : nP ≤ 5) (h1 : ∀ k, μ' 5 0 k = μ 5 0 k) (h2 : μ' 9 0 5 = μ 9 0 5) (h3 : ∀ t j k, 2 ≤ j → t = 4 ∨ 15 ≤ t ∧ t ≤ 19 → μ' t j k = μ t j k) (h4 : ∀ k, μ' 35 0 k = μ 35 0 k) (q : zPs μ n B nP) : zPs μ' n B nP := by
  obtain ⟨N, X, a1, a2, a3, a4, a5, a6⟩ := q
  exact ⟨N, X, by rw [h1]; exact a1, by rw [h2]; exact a2, a3, by rw [h1]; exact a4, a5, fun k hk => zLR_cg hp5 (fun t x => h3 t _ x (by omega)) (fun x _ => h4 _) (a6 k hk)⟩
theorem zIm_cg {μ μ' : zM} {n : Nat} {B : Nat → Nat} {nP : Nat} (hp5 : nP ≤ 5) (h1 : ∀ k, μ' 6 0 k = μ 6 0 k) (h2 : ∀ k, μ' 37 0 k = μ 37 0 k) (h3 : ∀ t j k, 32 ≤ j → t = 4 ∨ 15 ≤ t ∧ t ≤ 19 → μ' t j k = μ t j k) (h4 : ∀ k, μ' 36 0 k = μ 36 0 k) (h5 : ∀ k, μ' 23 0 k = μ 23 0 k) (q : zIm μ n B nP) : zIm μ' n B nP := by
  obtain ⟨a1, a2⟩ := q
  refine ⟨by rw [h1]; exact a1, fun i hi => ⟨by rw [h1, h2]; exact (a2 i hi).1, fun hb => ?_⟩⟩
  rw [h1] at hb
  obtain ⟨b1, b2⟩ := (a2 i hi).2 hb
  exact ⟨zLR_cg hp5 (fun t x => h3 t _ x (by omega)) (fun x _ => h4 _) b1, by rw [h4, h5]; exact b2⟩
theorem zCh_cg {μ μ' : zM} (h1 : μ' 9 0 8 = μ 9 0 8) (h2 : μ' 1 0 8 = μ 1 0 8) (q : zCh μ) : zCh μ' := by
  unfold zCh at q ⊢
  rw [h1, h2]; exact q
theorem zSg_cg {μ μ' : zM} (h1 : μ' 7 0 7 = μ 7 0 7) (h2 : μ' 9 0 13 = μ 9 0 13) (h3 : ∀ t k, t = 24 ∨ t = 25 ∨ t = 39 → μ' t 0 k = μ t 0 k) (q : zSg μ) : zSg μ' := by
  obtain ⟨N, a1, a2, a3, a4⟩ := q
  exact ⟨N, by rw [h1]; exact a1, by rw [h2]; exact a2, a3, fun k hk => by rw [h3 39 _ (by omega), h3 39 _ (by omega), h3 24 _ (by omega), h3 25 _ (by omega)]; exact a4 k hk⟩
theorem zBk_cg {μ μ' : zM} {n : Nat} {B : Nat → Nat} (h1 : μ' 7 0 8 = μ 7 0 8) (h2 : μ' 9 0 15 = μ 9 0 15) (h3 : ∀ t k, 26 ≤ t ∧ t ≤ 28 ∨ t = 40 → μ' t 0 k = μ t 0 k) (q : zBk μ n B) : zBk μ' n B := by
  obtain ⟨N, a1, a2, a3, a4⟩ := q
  refine ⟨N, by rw [h1]; exact a1, by rw [h2]; exact a2, a3, fun k hk => ?_⟩
  rw [h3 40 _ (by omega), h3 40 _ (by omega), h3 40 _ (by omega), h3 26 _ (by omega), h3 27 _ (by omega), h3 28 _ (by omega)]
  exact a4 k hk
/-- scratch: what the relation never looks at -/
def zsc (t i k : Nat) : Prop := ((t = 3 ∨ t = 4 ∨ (10 ≤ t ∧ t ≤ 19) ∨ t = 33 ∨ t = 34) ∧ i = 1) ∨ t = 8 ∨ (29 ≤ t ∧ t ≤ 32) ∨ (41 ≤ t ∧ t ≤ 43) ∨ (t = 7 ∧ k = 9) ∨ (t = 2 ∧ 3 ≤ k ∧ k ≤ 5) ∨ (t = 9 ∧ 16 ≤ k)
def zkp (μ μ' : zM) : Prop := ∀ t i k, ¬ zsc t i k → μ' t i k = μ t i k
theorem zkp_r (μ : zM) : zkp μ μ := fun _ _ _ _ => rfl
theorem zkp_t {a b c : zM} (h1 : zkp a b) (h2 : zkp b c) : zkp a c := fun t i k q => (h2 t i k q).trans (h1 t i k q)
theorem zkp_set {μ μ' : zM} (h : zkp μ μ') (t i k : Nat) (v : Int) (q : zsc t i k) : zkp μ (zset μ' t i k v) := by
  refine zkp_t h fun a b c n => ?_
  unfold zset
  rw [if_neg]
  rintro ⟨rfl, rfl, rfl⟩
  exact n q
theorem zkp_fil {μ μ' : zM} (h : zkp μ μ') (t i n : Nat) (v : Int) (q : ∀ k, zsc t i k) : zkp μ (zfil μ' t i n v) := by
  refine zkp_t h fun a b c z => ?_
  unfold zfil
  rw [if_neg]
  rintro ⟨rfl, rfl, -⟩
  exact z (q _)
theorem zkp_cpy {μ μ' : zM} (h : zkp μ μ') (t i sp u j dp n : Nat) (q : ∀ k, zsc u j k) : zkp μ (zcpy μ' t i sp u j dp n) := by
  refine zkp_t h fun a b c z => ?_
  unfold zcpy
  rw [if_neg]
  rintro ⟨rfl, rfl, -⟩
  exact z (q _)
theorem zkp_hs {μ μ' : zM} (h : zkp μ μ') {n : Nat} {B : Nat → Nat} {nP nW : Nat} (q : zHs μ n B nP nW) : zHs μ' n B nP nW := zHs_cg (fun t k z => h _ _ _ (by unfold zsc; omega)) (fun k => h _ _ _ (by unfold zsc; omega)) q
theorem zkp_rel {μ μ' : zM} (h : zkp μ μ') (q : zRel μ) : zRel μ' := by
  obtain ⟨n, B, nP, nW, h1, ⟨h2, h3⟩, h4, h5, h6, h7, h8, h9⟩ := q
  have hp5 := h1.2.2.2.2.2.2.2.1.2.2.1
  refine ⟨n, B, nP, nW, zkp_hs h h1, ⟨zLR_cg hp5 (fun t k z => h _ _ _ (by unfold zsc; omega)) (fun k _ => h _ _ _ (by unfold zsc; omega)) h2, ?_⟩, zTx_cg ?_ ?_ ?_ ?_ ?_ ?_ h4, zPs_cg hp5 ?_ ?_ ?_ ?_ h5, zIm_cg hp5 ?_ ?_ ?_ ?_ ?_ h6, zCh_cg ?_ ?_ h7, zSg_cg ?_ ?_ ?_ h8, zBk_cg ?_ ?_ ?_ h9⟩
  · rw [h _ _ _ (by unfold zsc; omega)]; exact h3
  all_goals intros; refine h _ _ _ ?_; unfold zsc; omega
