/-! TOLD (what is read most, of the model) -/
theorem rM_cg {μ μ' : zM} {i : Nat} (h : ∀ k, μ' 34 i k = μ 34 i k) (g : ∀ k, μ' 33 0 k = μ 33 0 k) : rM μ' i = rM μ i := by
  funext r b
  unfold rM
  rw [h, g, g]
theorem rC_cg {μ μ' : zM} {j : Nat} (h : ∀ k, μ' 15 j k = μ 15 j k) (g : ∀ t k, t = 11 ∨ t = 12 → μ' t 0 k = μ t 0 k) : rC μ' j = rC μ j := by
  funext r b
  unfold rC
  rw [h, g 11 _ (by omega), g 12 _ (by omega)]
theorem zLm_cg {μ μ' : zM} {i : Nat} (h : ∀ k, μ' 34 i k = μ 34 i k) (q : zLm μ i) : zLm μ' i := fun r hr => by rw [h]; exact q r hr
theorem zLc_cg {μ μ' : zM} {j : Nat} (h : ∀ k, μ' 15 j k = μ 15 j k) (q : zLc μ j) : zLc μ' j := fun r hr => by rw [h]; exact q r hr
/-- all but one kind -/
def zag (u : Nat) (μ μ' : zM) : Prop := ∀ t i k, t ≠ u → μ' t i k = μ t i k
theorem zag_set {u : Nat} {μ μ' : zM} (h : zag u μ μ') (i k : Nat) (v : Int) : zag u μ (zset μ' u i k v) := fun t i' k' q => by rw [zo (Or.inl q)]; exact h t i' k' q
theorem zmor_v (c : Nat → Int) : ∀ i, zmor c i = (-1, 0) ∨ ∃ s : Nat, 1 ≤ s ∧ s ≤ i ∧ zmor c i = ((s : Int), c s) ∧ 0 < c s
  | 0 => Or.inl rfl
  | i + 1 => by
    unfold zmor
    by_cases q : c (i + 1) ≤ (zmor c i).2
    · rw [if_pos q]
      rcases zmor_v c i with h | ⟨s, h1, h2, h3, h4⟩
      · exact Or.inl h
      · exact Or.inr ⟨s, h1, by omega, h3, h4⟩
    · rw [if_neg q]
      refine Or.inr ⟨i + 1, by omega, Nat.le_refl _, rfl, ?_⟩
      rcases zmor_v c i with h | ⟨s, h1, h2, h3, h4⟩
      · rw [h] at q; simp at q; omega
      · rw [h3] at q; simp at q; omega
theorem zmor_s (c : Nat → Int) (i : Nat) : zmor c (i + 1) = if c (i + 1) ≤ (zmor c i).2 then zmor c i else (((i + 1 : Nat) : Int), c (i + 1)) := rfl
theorem s_mmostRead (d : Nat) (μ : zM) {n : Nat} {B : Nat → Nat} (hH : zHm μ n B) (hL : zLm μ 0) (K : Int → zM → Prop) (h : ∀ μ', zag 41 μ μ' → K (zmor (fun x => zcnt (rM μ 0) B n (x : Int)) 9).1 μ') : zC1 (d + 3) m_X12_mostRead [zR 9 0] μ K := by
  have hH0 := hH
  obtain ⟨e1, e2, e3, -⟩ := hH
  have hB : ∀ r, r < n → B r ≤ 12 := fun r hr => (e3 r hr).2.2
  refine k_X12_mostRead (d + 2) μ K ?_
  -- the best, out of the counts
  have L4 : ∀ m i : Nat, i + m = 9 → ∀ μ', zag 41 μ μ' → (∀ x : Nat, x < 10 → μ' 41 0 x = zcnt (rM μ 0) B n (x : Int)) → zJ (d + 3) m_X12_mostRead 78 [some (zR 9 0), some (zI (zmor (fun x => zcnt (rM μ 0) B n (x : Int)) i).1), some (zI ((i + 1 : Nat) : Int))] μ' (zQ1 K) := by
    intro m
    induction m with
    | zero =>
      intro i hi μ' ha hc
      refine k_X12_mostRead_78 (d + 2) _ _ μ' K ⟨fun _ => ?_, fun q => absurd q (by omega)⟩
      rw [show i = 9 by omega]
      exact h μ' ha
    | succ m ih =>
      intro i hi μ' ha hc
      have e := ih (i + 1) (by omega) μ' ha hc
      rw [zmor_s] at e
      have hci := hc (i + 1) (by omega)
      refine k_X12_mostRead_78 (d + 2) _ _ μ' K ⟨fun q => absurd q (by omega), fun _ => ⟨⟨by omega, by omega⟩, ?_⟩⟩
      rw [Int.toNat_natCast, hci, z_fix (show (-2147483648 : Int) ≤ ((i + 1 : Nat) : Int) + 1 by omega) (by omega)]
      rcases zmor_v (fun x => zcnt (rM μ 0) B n (x : Int)) i with v | ⟨s, h1, h2, h3, h4⟩
      · rw [v] at e ⊢
        refine ⟨fun q => ?_, fun q => ⟨fun _ => ?_, fun z => absurd rfl z⟩⟩
        · rw [if_pos (by exact q)] at e; exact e
        · rw [if_neg (by exact q)] at e; exact e
      · rw [h3] at e ⊢
        have hcs := hc s (by omega)
        refine ⟨fun q => ?_, fun q => ⟨fun z => absurd z (by show ¬ (s : Int) = -1; omega), fun _ => ⟨⟨by omega, by omega⟩, ⟨by show (0 : Int) ≤ (s : Int); omega, by show (s : Int) < 10; omega⟩, ?_⟩⟩⟩
        · rw [if_pos (by have h5 : zcnt (rM μ 0) B n ((i + 1 : Nat) : Int) ≤ 0 := q
                         show zcnt (rM μ 0) B n ((i + 1 : Nat) : Int) ≤ zcnt (rM μ 0) B n (s : Int)
                         have h6 : 0 < zcnt (rM μ 0) B n (s : Int) := h4
                         omega)] at e
          exact e
        · show (zcnt (rM μ 0) B n ((i + 1 : Nat) : Int) ≤ μ' 41 0 ((s : Int)).toNat → _) ∧ (¬ zcnt (rM μ 0) B n ((i + 1 : Nat) : Int) ≤ μ' 41 0 ((s : Int)).toNat → _)
          rw [Int.toNat_natCast, hcs]
          refine ⟨fun q2 => ?_, fun q2 => ?_⟩
          · rw [if_pos (by exact q2)] at e; exact e
          · rw [if_neg (by exact q2)] at e; exact e
  -- the counts
  have L2 : ∀ m r : Nat, r + m = n → ∀ μ', zag 41 μ μ' → (∀ x : Nat, x < 10 → μ' 41 0 x = zSm (zhow (rM μ 0) B (x : Int)) r) → zJ (d + 3) m_X12_mostRead 23 [some (zR 9 0), some (zI (r : Int)), none] μ' (zQ1 K) := by
    intro m
    induction m with
    | zero =>
      intro r hr μ' ha hc
      refine k_X12_mostRead_23 (d + 2) r μ' K ⟨by omega, fun _ => L4 9 0 rfl μ' ha (fun x hx => ?_), fun q => absurd (show μ' 33 0 1 = (n : Int) by rw [ha _ _ _ (by decide)]; exact e1) (by omega)⟩
      rw [hc x hx, show r = n by omega]
      rfl
    | succ m ih =>
      intro r hr μ' ha hc
      obtain ⟨g1, g2, g3⟩ := e3 r (by omega)
      have e1' : μ' 33 0 1 = (n : Int) := by rw [ha _ _ _ (by decide)]; exact e1
      refine k_X12_mostRead_23 (d + 2) r μ' K ⟨by omega, fun q => absurd q (by omega), fun _ => ?_⟩
      have L3 : ∀ m2 b : Nat, b + m2 = B r → ∀ μ', zag 41 μ μ' → (∀ x : Nat, x < 10 → μ' 41 0 x = zSm (zhow (rM μ 0) B (x : Int)) r + zSm (fun b => if rM μ 0 r b = (x : Int) then 1 else 0) b) → zJ (d + 3) m_X12_mostRead 35 [some (zR 9 0), some (zI (r : Int)), some (zI (b : Int))] μ' (zQ1 K) := by
        intro m2
        induction m2 with
        | zero =>
          intro b hb μ' ha hc
          refine k_X12_mostRead_35 (d + 2) r b μ' K ?_
          rw [z_i (c := 4) (m := 4 + r) (by omega) (by omega), Int.toNat_natCast, ha 33 _ _ (by decide), g1]
          refine ⟨⟨by omega, by omega⟩, fun _ => ?_, fun q => absurd q (by omega)⟩
          rw [z_fix (by omega) (by omega)]
          refine ih (r + 1) (by omega) μ' ha (fun x hx => ?_)
          rw [hc x hx, show b = B r by omega]
          rfl
        | succ m2 ih2 =>
          intro b hb μ' ha hc
          have eM : rM μ' 0 = rM μ 0 := rM_cg (fun k => ha _ _ _ (by decide)) (fun k => ha _ _ _ (by decide))
          have hrg := rM_rg (i := 0) hH0 (show r < n by omega) (show b < B r by omega)
          refine k_X12_mostRead_35 (d + 2) r b μ' K ?_
          rw [z_i (c := 4) (m := 4 + r) (by omega) (by omega), Int.toNat_natCast, ha 33 _ _ (by decide), g1]
          refine ⟨⟨by omega, by omega⟩, fun q => absurd q (by omega), fun _ => s_mreads d r b (by omega) (by omega) μ' (zLm_cg (fun k => ha _ _ _ (by decide)) hL) _ ?_⟩
          rw [eM]
          obtain ⟨y, hy⟩ := Int.eq_ofNat_of_zero_le hrg.1
          rw [hy, Int.toNat_natCast]
          have hy10 : y < 10 := by omega
          refine ⟨⟨by omega, by omega⟩, ⟨by omega, by omega⟩, ?_⟩
          have b1 := zcnt_rg (rM μ 0) B (y : Int) hB r (by omega)
          have b2 := zhow_rg (rM μ 0) B (y : Int) r b
          rw [z_fix (show (-2147483648 : Int) ≤ (b : Int) + 1 by omega) (by omega), hc y hy10, z_fix (by omega) (by omega)]
          refine ih2 (b + 1) (by omega) _ (zag_set ha _ _ _) (fun x hx => ?_)
          rw [zSm_s]
          by_cases q : x = y
          · subst q
            rw [zset_self, if_pos hy]; omega
          · rw [zo (by omega), hc x hx, if_neg (by rw [hy]; omega)]; omega
      refine L3 (B r) 0 (by omega) μ' ha (fun x hx => ?_)
      rw [hc x hx]
      show _ = zSm (zhow (rM μ 0) B (x : Int)) r + 0
      omega
  have L1 : ∀ m i : Nat, i + m = 10 → ∀ μ', zag 41 μ μ' → (∀ x : Nat, x < i → μ' 41 0 x = 0) → zJ (d + 3) m_X12_mostRead 2 [some (zR 9 0), some (zI (i : Int)), none] μ' (zQ1 K) := by
    intro m
    induction m with
    | zero =>
      intro i hi μ' ha hc
      refine k_X12_mostRead_2 (d + 2) i μ' K ⟨fun _ => L2 n 0 (by omega) μ' ha (fun x hx => hc x (by omega)), fun q => absurd q (by omega)⟩
    | succ m ih =>
      intro i hi μ' ha hc
      refine k_X12_mostRead_2 (d + 2) i μ' K ⟨fun q => absurd q (by omega), fun _ => ⟨⟨by omega, by omega⟩, ?_⟩⟩
      rw [z_fix (by omega) (by omega), Int.toNat_natCast]
      refine ih (i + 1) (by omega) _ (zag_set ha _ _ _) (fun x hx => ?_)
      by_cases q : x = i
      · subst q; rw [zset_self]
      · rw [zo (by omega)]; exact hc x (by omega)
  exact L1 10 0 (by omega) μ (fun _ _ _ _ => rfl) (fun x hx => absurd hx (by omega))
theorem zkp_ag {u : Nat} {μ μ' : zM} (h : zag u μ μ') (hu : ∀ i k, zsc u i k) : zkp μ μ' := by
  intro t i k q
  refine h t i k fun z => ?_
  subst z
  exact q (hu i k)
