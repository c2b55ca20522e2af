/-! SHORTEST, the model: the next order -/
def zorP (μ : zM) (p : List Nat) (n : Nat) : Prop := p.length = n ∧ ∀ k, k < n → μ 42 0 k = ((p.getD k 0 : Nat) : Int)
theorem zgd_set (p : List Nat) (i v k : Nat) (hi : i < p.length) : (p.set i v).getD k 0 = if k = i then v else p.getD k 0 := by
  rw [List.getD_eq_getElem?_getD, List.getD_eq_getElem?_getD, List.getElem?_set]
  by_cases h : k = i
  · subst h; rw [if_pos rfl, if_pos rfl, if_pos hi]; rfl
  · rw [if_neg h, if_neg (fun e => h e.symm)]
theorem zor_set {μ : zM} {p : List Nat} {n : Nat} (h : zorP μ p n) {i : Nat} (hi : i < n) (v : Nat) : zorP (zset μ 42 0 i (v : Int)) (p.set i v) n := by
  refine ⟨by rw [List.length_set]; exact h.1, fun k hk => ?_⟩
  rw [zgd_set p i v k (by rw [h.1]; exact hi)]
  by_cases q : k = i
  · subst q; rw [zset_self, if_pos rfl]
  · rw [zo (by omega), if_neg q]; exact h.2 k hk
def zsw (p : List Nat) (i j : Nat) : List Nat := (p.set i (p.getD j 0)).set j (p.getD i 0)
theorem zor_sw {μ : zM} {p : List Nat} {n : Nat} (h : zorP μ p n) {i j : Nat} (hi : i < n) (hj : j < n) : zorP (zset (zset μ 42 0 i (μ 42 0 j)) 42 0 j (μ 42 0 i)) (zsw p i j) n := by
  rw [h.2 i hi, h.2 j hj]
  exact zor_set (zor_set h hi _) hj _
def znk (p : List Nat) : Nat → Nat
  | 0 => 0
  | j + 1 => if p.getD (j + 1) 0 < p.getD j 0 then znk p j else j + 1
theorem znk_s (p : List Nat) (j : Nat) : znk p (j + 1) = if p.getD (j + 1) 0 < p.getD j 0 then znk p j else j + 1 := rfl
def znj (p : List Nat) (v : Nat) : Nat → Nat
  | 0 => 0
  | j + 1 => if p.getD (j + 1) 0 < v then znj p v j else j + 1
theorem znj_s (p : List Nat) (v j : Nat) : znj p v (j + 1) = if p.getD (j + 1) 0 < v then znj p v j else j + 1 := rfl
def znr : Nat → List Nat → Nat → Nat → List Nat
  | 0, p, _, _ => p
  | m + 1, p, x, y => if x < y then znr m (zsw p x y) (x + 1) (y - 1) else p
theorem znr_s (m : Nat) (p : List Nat) (x y : Nat) : znr (m + 1) p x y = if x < y then znr m (zsw p x y) (x + 1) (y - 1) else p := rfl
def znx (n : Nat) (p : List Nat) : Option (List Nat) := match znk p (n - 1) with
  | 0 => none
  | k + 1 => some (znr 6 (zsw p k (znj p (p.getD k 0) (n - 1))) (k + 1) (n - 1))
theorem s_turnEnd (d n : Nat) (hn : n ≤ 6) (μ : zM) (K : Int → zM → Prop) (q : List Nat) (hK : ∀ μ', zorP μ' q n → (∀ t i k, t ≠ 42 → μ' t i k = μ t i k) → K 1 μ') : ∀ (m x y : Nat) (p : List Nat) (μ' : zM), y < n → y ≤ x + m → zorP μ' p n → (∀ t i k, t ≠ 42 → μ' t i k = μ t i k) → znr m p x y = q → zJ d m_X12_nextOrder 100 [some (zR 9 0), none, none, none, none, some (zI (x : Int)), some (zI (y : Int))] μ' (zQ1 K) := by
  intro m
  induction m with
  | zero =>
    intro x y p μ' hy hxy ho hf hr
    have hr2 : p = q := hr
    subst hr2
    exact k_X12_nextOrder_100 d x y μ' K ⟨fun _ => ⟨Or.inr rfl, hK μ' ho hf⟩, fun z => absurd z (by omega)⟩
  | succ m ih =>
    intro x y p μ' hy hxy ho hf hr
    rw [znr_s] at hr
    refine k_X12_nextOrder_100 d x y μ' K ⟨fun z => ⟨Or.inr rfl, ?_⟩, fun z => ⟨⟨by omega, by omega⟩, ⟨by omega, by omega⟩, ⟨by omega, by omega⟩, ⟨by omega, by omega⟩, ?_⟩⟩
    · rw [if_neg (by omega)] at hr
      subst hr
      exact hK μ' ho hf
    · rw [if_pos (by omega)] at hr
      rw [z_fix (by omega) (by omega), z_fix (by omega) (by omega), Int.toNat_natCast, Int.toNat_natCast, show (y : Int) + -1 = ((y - 1 : Nat) : Int) by omega]
      exact ih (x + 1) (y - 1) _ _ (by omega) (by omega) (zor_sw ho (by omega) hy) (fun t i k z => by rw [zo (by omega), zo (by omega)]; exact hf t i k z) hr
theorem s_nextOrder (d n : Nat) (hn1 : 1 ≤ n) (hn : n ≤ 6) (μ : zM) (p : List Nat) (ho : zorP μ p n) (K : Int → zM → Prop) (h0 : znx n p = none → K 0 μ) (h1 : ∀ q, znx n p = some q → ∀ μ', zorP μ' q n → (∀ t i k, t ≠ 42 → μ' t i k = μ t i k) → K 1 μ') : zC1 d m_X12_nextOrder [zR 9 0, zI (n : Int)] μ K := by
  refine k_X12_nextOrder d n μ K ?_
  rw [z_fix (by omega) (by omega)]
  have L : ∀ j : Nat, j + 1 ≤ n → znk p j = znk p (n - 1) → zJ d m_X12_nextOrder 4 [some (zR 9 0), some (zI (n : Int)), some (zI ((j : Int) - 1)), none, none, none, none] μ (zQ1 K) := by
    intro j
    induction j with
    | zero =>
      intro hj he
      have hz : znx n p = none := by
        unfold znx
        generalize hz : znk p (n - 1) = z at he ⊢
        subst he
        rfl
      exact k_X12_nextOrder_4 d n _ μ K ⟨fun _ => ⟨fun z => absurd z (by omega), fun _ => ⟨Or.inl rfl, h0 hz⟩⟩, fun z => absurd z (by omega)⟩
    | succ j ih =>
      intro hj he
      rw [show ((j + 1 : Nat) : Int) - 1 = (j : Int) by omega]
      rw [znk_s] at he
      refine k_X12_nextOrder_4 d n j μ K ⟨fun z => absurd z (by omega), fun _ => ?_⟩
      rw [z_fix (show (-2147483648 : Int) ≤ (j : Int) + 1 by omega) (by omega), z_fix (show (-2147483648 : Int) ≤ (j : Int) + -1 by omega) (by omega), show (j : Int) + 1 = ((j + 1 : Nat) : Int) by omega, Int.toNat_natCast, Int.toNat_natCast, ho.2 j (by omega), ho.2 (j + 1) (by omega)]
      refine ⟨⟨by omega, by omega⟩, ⟨by omega, by omega⟩, fun z => ⟨fun _ => ?_, fun y => absurd y (by omega)⟩, fun z => ?_⟩
      · rw [if_neg (by omega)] at he
        have hq : znx n p = some (znr 6 (zsw p j (znj p (p.getD j 0) (n - 1))) (j + 1) (n - 1)) := by
          unfold znx
          generalize hz : znk p (n - 1) = z at he ⊢
          subst he
          rfl
        rw [z_fix (by omega) (by omega), show (n : Int) - 1 = ((n - 1 : Nat) : Int) by omega]
        have stop : ∀ i : Nat, j ≤ i → i < n → znj p (p.getD j 0) (n - 1) = i → zJ d m_X12_nextOrder 100 [some (zR 9 0), none, none, none, none, some (zI (w32 ((j : Int) + 1))), some (zI (w32 ((n : Int) - 1)))] (zset (zset μ 42 0 j (μ 42 0 i)) 42 0 i (μ 42 0 j)) (zQ1 K) := by
          intro i q1 q2 q3
          rw [z_fix (by omega) (by omega), z_fix (by omega) (by omega), show (n : Int) - 1 = ((n - 1 : Nat) : Int) by omega]
          refine s_turnEnd d n hn _ K (znr 6 (zsw p j i) (j + 1) (n - 1)) (fun μ' a b => h1 _ (by rw [hq, q3]) μ' a (fun t i' k z => by rw [b t i' k z, zo (by omega), zo (by omega)])) 6 (j + 1) (n - 1) (zsw p j i) _ (by omega) (by omega) (zor_sw ho (by omega) q2) (fun _ _ _ _ => rfl) rfl
        have L2 : ∀ m : Nat, j + m < n → znj p (p.getD j 0) (j + m) = znj p (p.getD j 0) (n - 1) → zJ d m_X12_nextOrder 41 [some (zR 9 0), some (zI (n : Int)), some (zI (j : Int)), some (zI ((j + m : Nat) : Int)), none, none, none] μ (zQ1 K) := by
          intro m
          induction m with
          | zero =>
            intro q1 q2
            refine k_X12_nextOrder_41 d n j _ μ K ⟨⟨by omega, by omega⟩, ⟨by omega, by omega⟩, fun _ => ⟨⟨by omega, by omega⟩, ⟨by omega, by omega⟩, ⟨by omega, by omega⟩, ⟨by omega, by omega⟩, ?_⟩, fun y => ?_⟩
            · rw [Int.toNat_natCast, Int.toNat_natCast]
              refine stop (j + 0) (by omega) (by omega) ?_
              rw [← q2]
              cases j with
              | zero => rfl
              | succ j =>
                rw [show j + 1 + 0 = j + 1 by omega, znj_s, if_neg (by omega)]
            · rw [Int.toNat_natCast, Int.toNat_natCast, ho.2 _ q1, ho.2 j (by omega)] at y
              exact absurd y (by rw [show j + 0 = j by omega]; omega)
          | succ m ihm =>
            intro q1 q2
            have q3 : znj p (p.getD j 0) (j + (m + 1)) = if p.getD (j + m + 1) 0 < p.getD j 0 then znj p (p.getD j 0) (j + m) else j + m + 1 := znj_s p _ (j + m)
            rw [q3] at q2
            refine k_X12_nextOrder_41 d n j _ μ K ⟨⟨by omega, by omega⟩, ⟨by omega, by omega⟩, fun y => ⟨⟨by omega, by omega⟩, ⟨by omega, by omega⟩, ⟨by omega, by omega⟩, ⟨by omega, by omega⟩, ?_⟩, fun y => ?_⟩
            · rw [Int.toNat_natCast, Int.toNat_natCast, ho.2 _ q1, ho.2 j (by omega), show j + (m + 1) = j + m + 1 by omega] at y
              rw [if_neg (by omega)] at q2
              rw [Int.toNat_natCast, Int.toNat_natCast]
              exact stop (j + (m + 1)) (by omega) q1 (by rw [← q2]; omega)
            · rw [Int.toNat_natCast, Int.toNat_natCast, ho.2 _ q1, ho.2 j (by omega), show j + (m + 1) = j + m + 1 by omega] at y
              rw [if_pos (by omega)] at q2
              rw [z_fix (by omega) (by omega), show ((j + (m + 1) : Nat) : Int) + -1 = ((j + m : Nat) : Int) by omega]
              exact ihm (by omega) q2
        have h2 := L2 (n - 1 - j) (by omega) (by rw [show j + (n - 1 - j) = n - 1 by omega])
        rw [show j + (n - 1 - j) = n - 1 by omega] at h2
        exact h2
      · rw [if_pos (by omega)] at he
        rw [show (j : Int) + -1 = (j : Int) - 1 by omega]
        exact ih (by omega) he
  have h2 := L (n - 1) (by omega) rfl
  rw [show ((n - 1 : Nat) : Int) - 1 = (n : Int) - 2 by omega] at h2
  exact h2
/-- all orders, as the model goes through them -/
def zit (n : Nat) : Nat → List Nat → List (List Nat)
  | 0, p => [p]
  | m + 1, p => match znx n p with
    | none => [p]
    | some q => p :: zit n m q
def zfin (n : Nat) : Nat → List Nat → Bool
  | 0, _ => false
  | m + 1, p => p.all (fun x => decide (x < n)) && (match znx n p with
    | none => true
    | some q => zfin n m q)
theorem zit_1 : zit 1 720 (List.range 1) = zlx 1 1 (2 ^ 1 - 1) ∧ zfin 1 720 (List.range 1) = true := by decide +kernel
theorem zit_2 : zit 2 720 (List.range 2) = zlx 2 2 (2 ^ 2 - 1) ∧ zfin 2 720 (List.range 2) = true := by decide +kernel
theorem zit_3 : zit 3 720 (List.range 3) = zlx 3 3 (2 ^ 3 - 1) ∧ zfin 3 720 (List.range 3) = true := by decide +kernel
theorem zit_4 : zit 4 720 (List.range 4) = zlx 4 4 (2 ^ 4 - 1) ∧ zfin 4 720 (List.range 4) = true := by decide +kernel
theorem zit_5 : zit 5 720 (List.range 5) = zlx 5 5 (2 ^ 5 - 1) ∧ zfin 5 720 (List.range 5) = true := by decide +kernel
theorem zit_6 : zit 6 720 (List.range 6) = zlx 6 6 (2 ^ 6 - 1) ∧ zfin 6 720 (List.range 6) = true := by decide +kernel
theorem zit_n {n : Nat} (h1 : 1 ≤ n) (h6 : n ≤ 6) : zit n 720 (List.range n) = zlx n n (2 ^ n - 1) ∧ zfin n 720 (List.range n) = true := by
  rcases (show n = 1 ∨ n = 2 ∨ n = 3 ∨ n = 4 ∨ n = 5 ∨ n = 6 by omega) with rfl | rfl | rfl | rfl | rfl | rfl
  · exact zit_1
  · exact zit_2
  · exact zit_3
  · exact zit_4
  · exact zit_5
  · exact zit_6
