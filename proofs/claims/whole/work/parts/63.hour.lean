/-! AN HOUR, without memory; all persons go on, both sides -/
def zwkS (P U : Nat → Int) (B : Nat → Nat) (S : zST) : Nat → zST
  | 0 => S
  | p + 1 => zuS (zwkS P U B S p) 5 p ((zgo1 (zrS P U S (S 4 p).toNat) (B (S 4 p).toNat) (S 6 p).toNat (S 5 p).toNat : Nat) : Int)
theorem zwkS_s (P U : Nat → Int) (B : Nat → Nat) (S : zST) (p : Nat) : zwkS P U B S (p + 1) = zuS (zwkS P U B S p) 5 p ((zgo1 (zrS P U S (S 4 p).toNat) (B (S 4 p).toNat) (S 6 p).toNat (S 5 p).toNat : Nat) : Int) := rfl
theorem zwkS_o (P U : Nat → Int) (B : Nat → Nat) (S : zST) : ∀ (p a k : Nat), a ≠ 5 ∨ p ≤ k → zwkS P U B S p a k = S a k
  | 0, _, _, _ => rfl
  | p + 1, a, k, h => by
    rw [zwkS_s, zuS_o (by omega)]
    exact zwkS_o P U B S p a k (by omega)
theorem zrS_cg {P U : Nat → Int} {S S' : zST} (h : ∀ r, r < 6 → S' 3 r = S 3 r) : zrS P U S' = zrS P U S := by
  funext r b
  unfold zrS
  by_cases q : r < 6 ∧ b < 12
  · rw [if_pos q, if_pos q, h r q.1]
  · rw [if_neg q, if_neg q]
theorem zwkS_ok {n : Nat} {B : Nat → Nat} {nP : Nat} {S : zST} {M : Nat} (P U : Nat → Int) (o : zOK n B nP S M) : ∀ p, p ≤ nP → zOK n B nP (zwkS P U B S p) M
  | 0, _ => o
  | p + 1, hp => by
    have ih := zwkS_ok P U o p (by omega)
    obtain ⟨r, b, g, h1, h2, h3, h4, h5, h6⟩ := o.2.2.2.2.2 p (by omega)
    obtain ⟨o1, o2, o3, o4, o5, o6⟩ := ih
    rw [zwkS_s, h1, h2, h3, Int.toNat_natCast, Int.toNat_natCast, Int.toNat_natCast]
    have hl := zgo1_lt (zrS P U S r) g b h5
    refine ⟨by rw [zuS_o (by omega)]; exact o1, by rw [zuS_o (by omega)]; exact o2, by rw [zuS_o (by omega)]; exact o3, fun k q1 q2 => by rw [zuS_o (by omega)]; exact o4 k q1 q2, fun x hx => by rw [zuS_o (by omega)]; exact o5 x hx, fun x hx => ?_⟩
    rw [zuS_o (a := 5) (a' := 4) (by omega), zuS_o (a := 5) (a' := 6) (by omega)]
    by_cases q : x = p
    · subst q
      rw [zuS_i]
      rw [zwkS_o P U B S x 4 x (by omega), zwkS_o P U B S x 6 x (by omega)]
      exact ⟨r, _, g, h1, rfl, h3, h4, hl, h6⟩
    · rw [zuS_o (by omega)]; exact o6 x hx
theorem s_allGoOn (d j nP : Nat) (hp5 : nP ≤ 5) (μ : zM) {n : Nat} {B : Nat → Nat} (hH : zHc μ n B) (e1 : μ 3 0 3 = (nP : Int)) {S : zST} {M : Nat} (o : zOK n B nP S M) (h : zLC μ nP j S M) (K : Int → zM → Prop) (hK : ∀ μ', zLC μ' nP j (zwkS (μ 11 0) (μ 12 0) B S nP) M → (∀ t i k, ¬ (zlv t ∧ i = j) → μ' t i k = μ t i k) → zJ (d + 4) m_X5_anHour 33 [some (zR 4 j), some (zR 3 0), some (zI (M : Int)), some (zI 0)] μ' (zQ1 K)) : zC1 (d + 4) m_X5_anHour [zR 4 j] μ K := by
  refine k_X5_anHour (d + 3) j μ K ?_
  have L : ∀ m p : Nat, p + m = nP → ∀ μ', zLC μ' nP j (zwkS (μ 11 0) (μ 12 0) B S p) M → (∀ t i k, ¬ (zlv t ∧ i = j) → μ' t i k = μ t i k) → zJ (d + 4) m_X5_anHour 7 [some (zR 4 j), some (zR 3 0), some (zI (p : Int)), none] μ' (zQ1 K) := by
    intro m
    induction m with
    | zero =>
      intro p hp μ' hl hf
      have f1 : μ' 3 0 3 = (nP : Int) := by rw [hf _ _ _ (by unfold zlv; omega)]; exact e1
      refine k_X5_anHour_7 (d + 3) j 0 p μ' K ⟨fun _ => ?_, fun q => absurd q (by omega)⟩
      rw [hl.2.2.1]
      rw [show p = nP by omega] at hl
      exact hK μ' hl hf
    | succ m ih =>
      intro p hp μ' hl hf
      have f1 : μ' 3 0 3 = (nP : Int) := by rw [hf _ _ _ (by unfold zlv; omega)]; exact e1
      obtain ⟨r, b, g, h1, h2, h3, h4, h5, h6⟩ := o.2.2.2.2.2 p (by omega)
      have ok := zwkS_ok (μ 11 0) (μ 12 0) o p (by omega)
      obtain ⟨l1, l2, l3⟩ := hl.2.2.2.2.1 p (by omega)
      rw [zwkS_o _ _ _ _ _ _ _ (by omega)] at l1 l2 l3
      refine k_X5_anHour_7 (d + 3) j 0 p μ' K ⟨fun q => absurd q (by omega), fun _ => s_goOn d j p r b g (by omega) μ' (zHc_cg (fun t k z => hf _ _ _ (by unfold zlv; omega)) hH) (zLC_lc ok hl) (by rw [l1, h1]) (by rw [l2, h2]) (by rw [l3, h3]) h4 h5 h6 _ ?_⟩
      rw [z_fix (by omega) (by omega)]
      have er : rC μ' j = zrS (μ 11 0) (μ 12 0) S := by
        rw [rC_S hl, show μ' 11 0 = μ 11 0 from funext fun k => hf _ _ _ (by unfold zlv; omega), show μ' 12 0 = μ 12 0 from funext fun k => hf _ _ _ (by unfold zlv; omega)]
        exact zrS_cg fun x _ => zwkS_o _ _ _ _ _ _ _ (by omega)
      rw [er]
      refine ih (p + 1) (by omega) _ ?_ (fun t i k z => ?_)
      · rw [zwkS_s, h1, h2, h3, Int.toNat_natCast, Int.toNat_natCast, Int.toNat_natCast]
        exact zLC_u hl 17 5 p _ (by omega) (by omega) rfl
      · unfold zlv at z
        rw [zo (by omega)]
        exact hf _ _ _ (by unfold zlv; omega)
  exact L nP 0 (by omega) μ h (fun _ _ _ _ => rfl)
