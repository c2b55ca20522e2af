/-! QUERIES, both sides: BEST CANON, MATCH, NEAREST, MODULATION -/
theorem zbst_v {c : Nat → Int} (hc : ∀ i, 0 ≤ c i) : ∀ m : Nat, ∃ k : Nat, k ≤ m ∧ zbst c (m + 1) = ((k : Int), c k)
  | 0 => ⟨0, Nat.le_refl _, by
    rw [zbst_s]
    have := hc 0
    rw [if_neg (by show ¬ c 0 ≤ -1; omega)]⟩
  | m + 1 => by
    obtain ⟨k, h1, h2⟩ := zbst_v hc m
    rw [zbst_s]
    by_cases q : c (m + 1) ≤ (zbst c (m + 1)).2
    · rw [if_pos q]; exact ⟨k, by omega, h2⟩
    · rw [if_neg q]; exact ⟨m + 1, Nat.le_refl _, rfl⟩
theorem zalk_rg (f g : Nat → Int) (n m k : Nat) : 0 ≤ zalk f g n m k := (z01_rg (fun b => f b = g ((b + k) % m)) n).1
theorem s_mbest (r t w : Nat) (μ : zM) {n : Nat} {B : Nat → Nat} (hH : zHm μ n B) (hr : r < n) (ht : t < n) (hL : zLm μ 0) (K : Int → zM → Prop) (h : K (if w = 0 then (zbst (zalk (rM μ 0 r) (rM μ 0 t) (B r) (B t)) (B t)).1 else zalk (rM μ 0 r) (rM μ 0 t) (B r) (B t) (zbst (zalk (rM μ 0 r) (rM μ 0 t) (B r) (B t)) (B t)).1.toNat) μ) : zJ 8 m_X12_bestCanon 31 [some (zR 9 0), some (zI (r : Int)), some (zI (t : Int)), some (zI (w : Int)), some (zI 0), some (zI 1)] μ (zQ1 K) := by
  have hH0 := hH
  obtain ⟨e1, e2, e3, -⟩ := hH
  obtain ⟨g1, g2, g3⟩ := e3 t ht
  have hc := zalk_rg (rM μ 0 r) (rM μ 0 t) (B r) (B t)
  have L : ∀ m i k : Nat, i + m = B t → 0 < i → k < i → zbst (zalk (rM μ 0 r) (rM μ 0 t) (B r) (B t)) i = ((k : Int), zalk (rM μ 0 r) (rM μ 0 t) (B r) (B t) k) → zJ 8 m_X12_bestCanon 31 [some (zR 9 0), some (zI (r : Int)), some (zI (t : Int)), some (zI (w : Int)), some (zI (k : Int)), some (zI (i : Int))] μ (zQ1 K) := by
    intro m
    induction m with
    | zero =>
      intro i k hi h0 hk hz
      refine k_X12_bestCanon_31 7 r t w k i μ K ?_
      rw [z_i (c := 4) (m := 4 + t) (by omega) (by omega), Int.toNat_natCast, g1]
      rw [show i = B t by omega] at hz
      rw [hz] at h
      refine ⟨⟨by omega, by omega⟩, fun _ => ⟨fun q => s_inCanon 3 r t k (by omega) μ hH0 hr ht hL _ ?_, fun q => ?_⟩, fun q => absurd q (by omega)⟩
      · rw [if_neg (by omega)] at h; exact h
      · rw [if_pos (by omega)] at h; exact h
    | succ m ih =>
      intro i k hi h0 hk hz
      refine k_X12_bestCanon_31 7 r t w k i μ K ?_
      rw [z_i (c := 4) (m := 4 + t) (by omega) (by omega), Int.toNat_natCast, g1]
      refine ⟨⟨by omega, by omega⟩, fun q => absurd q (by omega), fun _ => s_inCanon 3 r t i (by omega) μ hH0 hr ht hL _ (s_inCanon 3 r t k (by omega) μ hH0 hr ht hL _ ?_)⟩
      rw [z_fix (by omega) (by omega)]
      have e := zbst_s (zalk (rM μ 0 r) (rM μ 0 t) (B r) (B t)) i
      rw [hz] at e
      refine ⟨fun q => ?_, fun q => ?_⟩
      · rw [if_pos q] at e
        exact ih (i + 1) k (by omega) (by omega) (by omega) e
      · rw [if_neg q] at e
        exact ih (i + 1) i (by omega) (by omega) (by omega) e
  obtain ⟨k, hk, hz⟩ := zbst_v hc 0
  have hk0 : k = 0 := by omega
  subst hk0
  exact L (B t - 1) 1 0 (by omega) (by omega) (by omega) hz
theorem q_bestCanon (μ : zM) (hR : zRel μ) (a b w : Int) : zAsk m_X11_bestCanon m_X12_bestCanon [zI a, zI b, zI w] μ := by
  obtain ⟨n, B, nP, nW, hHs, hLR, hC, hM, hLc, hLm, he⟩ := zrd0 hR
  refine k_X11_bestCanon 7 a b w μ _ (s_areTwoRooms 6 a b μ hC _ (fun r t hr ht hrn htn hne => ?_) (fun q => ?_))
  · subst hr; subst ht
    refine ⟨fun _ => s_beyond _ w 1 μ _ (fun q1 q2 => ⟨fun _ => ?_, fun z => absurd rfl z⟩) (fun q => ⟨fun z => absurd z (by decide), fun _ => ?_⟩), fun z => absurd (show (1 : Int) ≠ 0 by decide) z⟩
    · obtain ⟨w, rfl⟩ := Int.eq_ofNat_of_zero_le q1
      have fin : ∀ x : Int, x = (if w = 0 then (zbst (zalk (rM μ 0 r) (rM μ 0 t) (B r) (B t)) (B t)).1 else zalk (rM μ 0 r) (rM μ 0 t) (B r) (B t) (zbst (zalk (rM μ 0 r) (rM μ 0 t) (B r) (B t)) (B t)).1.toNat) → zC1 8 m_X12_bestCanon [zR 9 0, zI (r : Int), zI (t : Int), zI (w : Int)] μ (fun y μ2 => x = y ∧ zRel μ2) := by
        intro x hx
        refine k_X12_bestCanon 7 r t w μ _ (s_areTwo 5 r t μ hM _ (fun r' t' h1 h2 _ _ _ => ⟨fun _ => s_in _ _ _ _ μ _ (fun _ _ => ⟨fun _ => s_mbest r t w μ hM hrn htn hLm _ ⟨hx, hR⟩, fun z => absurd (show (1 : Int) ≠ 0 by decide) z⟩) (fun q => absurd q (by omega)), fun z => absurd (show (1 : Int) ≠ 0 by decide) z⟩) (fun q => absurd q (by omega)))
      refine s_bestShift 2 0 r t μ hC hrn htn hLc _ ?_
      obtain ⟨g1, g2, g3⟩ := hC.2.2.1 t htn
      obtain ⟨k, hk, hz⟩ := zbst_v (zalk_rg (rC μ 0 r) (rC μ 0 t) (B r) (B t)) (B t - 1)
      rw [show B t - 1 + 1 = B t by omega] at hz
      rw [hz]
      refine ⟨fun q => ?_, fun q => ?_⟩
      · refine s_alike 3 0 r t k (by omega) μ hC hrn htn hLc _ (fin _ ?_)
        rw [if_neg (by omega), he, hz]
        rfl
      · refine fin _ ?_
        rw [if_pos (by omega), he, hz]
    · refine k_X12_bestCanon 7 r t w μ _ (s_areTwo 5 r t μ hM _ (fun r' t' h1 h2 _ _ _ => ⟨fun _ => s_in _ _ _ _ μ _ (fun _ _ => absurd q (by omega)) (fun q => ⟨fun z => absurd rfl z, fun _ => ⟨rfl, hR⟩⟩), fun z => absurd (show (1 : Int) ≠ 0 by decide) z⟩) (fun q => absurd q (by omega)))
  · refine ⟨fun z => absurd rfl z, fun _ => ?_⟩
    exact k_X12_bestCanon 7 a b w μ _ (s_areTwo 5 a b μ hM _ (fun r t h1 h2 h3 h4 h5 => absurd q (by omega)) (fun _ => ⟨fun z => absurd rfl z, fun _ => ⟨rfl, hR⟩⟩))
/-- the other sheet, of the model -/
def oM (μ : zM) (r b : Nat) : Int := if r < 6 ∧ b < 12 then (if zbit (μ 34 0 r) b = true then μ 33 0 (16 + 12 * r + b) else μ 33 0 (88 + 12 * r + b)) else 0
theorem zod_eq {μ : zM} {n : Nat} {B : Nat → Nat} {nP nW : Nat} (hH : zHs μ n B nP nW) (h : zLR μ n B nP 0 34 0 0) : oM μ = oC μ 0 := by
  obtain ⟨-, -, h1, h2, -⟩ := hH
  funext r b
  unfold oM oC
  by_cases q : r < 6 ∧ b < 12
  · have h3 := (h.2.2.2.1 r q.1).1
    rw [Nat.zero_add] at h3
    rw [if_pos q, if_pos q, h3, h1 (12 * r + b) (by omega), h2 (12 * r + b) (by omega), show 88 + 12 * r + b = 88 + (12 * r + b) by omega, show 16 + 12 * r + b = 16 + (12 * r + b) by omega]
  · rw [if_neg q, if_neg q]
theorem s_mmatch (r t k w : Nat) (hk : k < 100) (μ : zM) {n : Nat} {B : Nat → Nat} (hH : zHm μ n B) (hr : r < n) (ht : t < n) (hL : zLm μ 0) (K : Int → zM → Prop) (h : K (if w = 0 ∧ zmt (rM μ 0 r) (oM μ r) (rM μ 0 t) (B r) (B t) k ≠ -1 then zpct (zmt (rM μ 0 r) (oM μ r) (rM μ 0 t) (B r) (B t) k) else zmt (rM μ 0 r) (oM μ r) (rM μ 0 t) (B r) (B t) k) μ) : zJ 8 m_X12_match 44 [some (zR 9 0), some (zI (r : Int)), some (zI (t : Int)), some (zI (k : Int)), some (zI (w : Int)), some (zI 0), some (zI 0)] μ (zQ1 K) := by
  have hH0 := hH
  obtain ⟨e1, e2, e3, -⟩ := hH
  obtain ⟨g1, g2, g3⟩ := e3 r hr
  obtain ⟨g4, g5, g6⟩ := e3 t ht
  have L : ∀ m i : Nat, i + m = B r → zal2 (fun b => decide (rM μ 0 r b = rM μ 0 t ((b + k) % B t) ∨ oM μ r b = rM μ 0 t ((b + k) % B t))) i = true → zJ 8 m_X12_match 44 [some (zR 9 0), some (zI (r : Int)), some (zI (t : Int)), some (zI (k : Int)), some (zI (w : Int)), some (zI (zbm (fun b => decide (rM μ 0 r b ≠ rM μ 0 t ((b + k) % B t))) i)), some (zI (i : Int))] μ (zQ1 K) := by
    intro m
    induction m with
    | zero =>
      intro i hi ha
      refine k_X12_match_44 7 r t k w _ i μ K ?_
      rw [z_i (c := 4) (r := r) (m := 4 + r) (by omega) (by omega), Int.toNat_natCast, g1]
      rw [show i = B r by omega] at ha ⊢
      have hz := zbm_12 (fun b => decide (rM μ 0 r b ≠ rM μ 0 t ((b + k) % B t))) (n := B r) (by omega)
      have em : zmt (rM μ 0 r) (oM μ r) (rM μ 0 t) (B r) (B t) k = zbm (fun b => decide (rM μ 0 r b ≠ rM μ 0 t ((b + k) % B t))) (B r) := by unfold zmt; rw [if_pos ha]
      rw [em] at h
      refine ⟨⟨by omega, by omega⟩, fun _ => ⟨fun q => ?_, fun q => s_bits _ _ hz μ _ ?_⟩, fun q => absurd q (by omega)⟩
      · rw [if_neg (by omega)] at h; exact h
      · rw [if_pos ⟨by omega, by have := hz.1; omega⟩] at h; exact h
    | succ m ih =>
      intro i hi ha
      refine k_X12_match_44 7 r t k w _ i μ K ?_
      rw [z_i (c := 4) (r := r) (m := 4 + r) (by omega) (by omega), z_i (c := 0) (r := r) (m := r) (by omega) (by omega), z_i (c := 4) (r := t) (m := 4 + t) (by omega) (by omega), Int.toNat_natCast, Int.toNat_natCast, Int.toNat_natCast, g1]
      have e := ih (i + 1) (by omega)
      rw [zal2_s, ha, zbm_s] at e
      have bad : ¬ rM μ 0 r i = rM μ 0 t ((i + k) % B t) → ¬ oM μ r i = rM μ 0 t ((i + k) % B t) → K (-1) μ := by
        intro q1 q2
        have := zal2_no (g := fun b => decide (rM μ 0 r b = rM μ 0 t ((b + k) % B t) ∨ oM μ r b = rM μ 0 t ((b + k) % B t))) (i := i) (by simp [q1, q2]) (n := B r) (by omega)
        have em : zmt (rM μ 0 r) (oM μ r) (rM μ 0 t) (B r) (B t) k = -1 := by unfold zmt; rw [if_neg (by rw [this]; decide)]
        rw [em, if_neg (by simp)] at h
        exact h
      refine ⟨⟨by omega, by omega⟩, fun q => absurd q (by omega), fun _ => s_misIn 4 r i t k (by omega) hk μ hH0 hr ht hL _ ?_⟩
      rw [z_fix (show (-2147483648 : Int) ≤ (i : Int) + 1 by omega) (by omega), z_or12 (zbm_12 _ (by omega)) (by omega)]
      by_cases q : rM μ 0 r i = rM μ 0 t ((i + k) % B t)
      · rw [if_pos q]
        refine ⟨fun _ => ?_, fun z => absurd (show (1 : Int) ≠ 0 by decide) z⟩
        have e5 := e (by simp [q])
        rw [if_neg (by simp [q])] at e5
        exact e5
      · rw [if_neg q]
        refine ⟨fun z => absurd rfl z, fun _ => ⟨⟨by omega, by omega⟩, s_has _ _ (zset12_in (hL r (by omega))) i (by omega) μ _ ?_⟩⟩
        have good : oM μ r i = rM μ 0 t ((i + k) % B t) → zJ 8 m_X12_match 44 [some (zR 9 0), some (zI (r : Int)), some (zI (t : Int)), some (zI (k : Int)), some (zI (w : Int)), some (zI (zon (zbm (fun b => decide (rM μ 0 r b ≠ rM μ 0 t ((b + k) % B t))) i) i)), some (zI ((i : Int) + 1))] μ (zQ1 K) := by
          intro q2
          have e5 := e (by simp [q2])
          rw [if_pos (by simpa using q)] at e5
          exact e5
        have hm := Nat.mod_lt (i + k) (show 0 < B t by omega)
        have fin : ∀ v : Int, v = oM μ r i → (0 ≤ ((4 + t : Nat) : Int) ∧ ((4 + t : Nat) : Int) < 200) ∧ μ 33 0 (4 + t) ≠ 0 ∧ zC1 7 m_X12_reads [zR 9 0, zI (t : Int), zI (Int.tmod (w32 ((i : Int) + (k : Int))) (μ 33 0 (4 + t)))] μ (fun x5 μ5 => (v = x5 → zJ 8 m_X12_match 44 [some (zR 9 0), some (zI (r : Int)), some (zI (t : Int)), some (zI (k : Int)), some (zI (w : Int)), some (zI (zon (zbm (fun b => decide (rM μ 0 r b ≠ rM μ 0 t ((b + k) % B t))) i) i)), some (zI ((i : Int) + 1))] μ5 (zQ1 K)) ∧ (¬ (v = x5) → K ((-1)) μ5)) := by
          intro v hv
          subst hv
          rw [g4]
          refine ⟨⟨by omega, by omega⟩, by omega, ?_⟩
          rw [z_fix (by omega) (by omega), show (i : Int) + (k : Int) = ((i + k : Nat) : Int) by omega, ← Int.ofNat_tmod]
          exact s_mreads 5 t ((i + k) % B t) (by omega) (by omega) μ hL _ ⟨good, bad q⟩
        by_cases z : zbit (μ 34 0 r) i = true
        · rw [if_pos z]
          refine ⟨fun _ => s_turned _ r i (by omega) (by omega) 0 μ _ (fin _ ?_), fun q2 => absurd (show (1 : Int) ≠ 0 by decide) q2⟩
          unfold oM
          rw [if_pos rfl, if_pos ⟨by omega, by omega⟩, if_pos z]
        · rw [if_neg z]
          refine ⟨fun q2 => absurd rfl q2, fun _ => s_turned _ r i (by omega) (by omega) 1 μ _ (fin _ ?_)⟩
          unfold oM
          rw [if_neg (by decide), if_pos ⟨by omega, by omega⟩, if_neg z]
  exact L (B r) 0 (by omega) rfl
theorem zmt_12 {f o g : Nat → Int} {n m k : Nat} (hn : n ≤ 12) (h : zmt f o g n m k ≠ -1) : zset12 (zmt f o g n m k) := by
  unfold zmt at h ⊢
  split
  · exact zbm_12 _ hn
  · next q => rw [if_neg q] at h; exact absurd rfl h
theorem q_match (μ : zM) (hR : zRel μ) (a b k w : Int) : zAsk m_X11_match m_X12_match [zI a, zI b, zI k, zI w] μ := by
  obtain ⟨n, B, nP, nW, hHs, hLR, hC, hM, hLc, hLm, he⟩ := zrd0 hR
  have ho := zod_eq hHs hLR
  refine k_X11_match 7 a b k w μ _ (s_areTwoRooms 6 a b μ hC _ (fun r t hr ht hrn htn hne => ?_) (fun q => ?_))
  · subst hr; subst ht
    have out : ¬ (0 ≤ k ∧ k ≤ 11) ∨ ¬ (0 ≤ w ∧ w ≤ 1) → zC1 8 m_X12_match [zR 9 0, zI (r : Int), zI (t : Int), zI k, zI w] μ (fun y μ2 => (-1000000002 : Int) = y ∧ zRel μ2) := by
      intro hq
      refine k_X12_match 7 r t k w μ _ (s_areTwo 5 r t μ hM _ (fun r' t' h1 h2 _ _ _ => ⟨fun _ => s_in _ _ _ _ μ _ (fun _ _ => ⟨fun z => absurd z (by decide), fun _ => s_in _ _ _ _ μ _ (fun _ _ => absurd hq (by omega)) (fun _ => ⟨fun z => absurd rfl z, fun _ => ⟨rfl, hR⟩⟩)⟩) (fun q => ⟨fun _ => ⟨rfl, hR⟩, fun z => absurd rfl z⟩), fun z => absurd (show (1 : Int) ≠ 0 by decide) z⟩) (fun q => absurd q (by omega)))
    refine ⟨fun _ => s_beyond _ k 11 μ _ (fun q1 q2 => ⟨fun z => absurd rfl z, fun _ => s_beyond _ w 1 μ _ (fun q3 q4 => ⟨fun _ => ?_, fun z => absurd rfl z⟩) (fun q => ⟨fun z => absurd z (by decide), fun _ => out (Or.inr q)⟩)⟩) (fun q => ⟨fun _ => out (Or.inl q), fun z => absurd (show (1 : Int) ≠ 0 by decide) z⟩), fun z => absurd (show (1 : Int) ≠ 0 by decide) z⟩
    obtain ⟨k, rfl⟩ := Int.eq_ofNat_of_zero_le q1
    obtain ⟨w, rfl⟩ := Int.eq_ofNat_of_zero_le q3
    have fin : ∀ x : Int, x = (if w = 0 ∧ zmt (rM μ 0 r) (oM μ r) (rM μ 0 t) (B r) (B t) k ≠ -1 then zpct (zmt (rM μ 0 r) (oM μ r) (rM μ 0 t) (B r) (B t) k) else zmt (rM μ 0 r) (oM μ r) (rM μ 0 t) (B r) (B t) k) → zC1 8 m_X12_match [zR 9 0, zI (r : Int), zI (t : Int), zI (k : Int), zI (w : Int)] μ (fun y μ2 => x = y ∧ zRel μ2) := by
      intro x hx
      refine k_X12_match 7 r t k w μ _ (s_areTwo 5 r t μ hM _ (fun r' t' h1 h2 _ _ _ => ⟨fun _ => s_in _ _ _ _ μ _ (fun _ _ => ⟨fun z => absurd z (by decide), fun _ => s_in _ _ _ _ μ _ (fun _ _ => ⟨fun _ => s_mmatch r t k w (by omega) μ hM hrn htn hLm _ ⟨hx, hR⟩, fun z => absurd (show (1 : Int) ≠ 0 by decide) z⟩) (fun q => absurd q (by omega))⟩) (fun q => absurd q (by omega)), fun z => absurd (show (1 : Int) ≠ 0 by decide) z⟩) (fun q => absurd q (by omega)))
    rw [he, ho] at fin
    refine s_barsToTurn 3 0 r t k (by omega) μ hC hrn htn hLc _ ⟨fun q => fin _ ?_, fun q => ⟨fun q2 => s_bitCount _ _ (zmt_12 (hC.2.2.1 r hrn).2.2 q2) μ _ (fin _ ?_), fun q2 => fin _ ?_⟩⟩
    · rw [if_neg (by omega)]
    · rw [if_pos ⟨by omega, q2⟩]
    · rw [if_neg (fun z => q2 z.2)]
  · refine ⟨fun z => absurd rfl z, fun _ => ?_⟩
    exact k_X12_match 7 a b k w μ _ (s_areTwo 5 a b μ hM _ (fun r t h1 h2 h3 h4 h5 => absurd q (by omega)) (fun _ => ⟨fun z => absurd rfl z, fun _ => ⟨rfl, hR⟩⟩))
