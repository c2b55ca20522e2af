/-! AN HOUR: all who meet, without memory; the class -/
def zmeq (T : Nat → Nat → Nat → Bool) (w p : Nat) (s : zST × Nat) : Nat → zST × Nat
  | 0 => s
  | q + 1 => if T w p q = true then (zlgS (zmeq T w p s q).1 (zmeq T w p s q).2 ((100 * w + 10 * p + q : Nat) : Int), (zmeq T w p s q).2 + 1) else zmeq T w p s q
def zmep (T : Nat → Nat → Nat → Bool) (nP w : Nat) (s : zST × Nat) : Nat → zST × Nat
  | 0 => s
  | p + 1 => zmeq T w p (zmep T nP w s p) nP
def zmew (T : Nat → Nat → Nat → Bool) (nP : Nat) (s : zST × Nat) : Nat → zST × Nat
  | 0 => s
  | w + 1 => zmep T nP w (zmew T nP s w) nP
theorem zmeq_s (T : Nat → Nat → Nat → Bool) (w p : Nat) (s : zST × Nat) (q : Nat) : zmeq T w p s (q + 1) = if T w p q = true then (zlgS (zmeq T w p s q).1 (zmeq T w p s q).2 ((100 * w + 10 * p + q : Nat) : Int), (zmeq T w p s q).2 + 1) else zmeq T w p s q := rfl
theorem zmep_s (T : Nat → Nat → Nat → Bool) (nP w : Nat) (s : zST × Nat) (p : Nat) : zmep T nP w s (p + 1) = zmeq T w p (zmep T nP w s p) nP := rfl
theorem zmew_s (T : Nat → Nat → Nat → Bool) (nP : Nat) (s : zST × Nat) (w : Nat) : zmew T nP s (w + 1) = zmep T nP w (zmew T nP s w) nP := rfl
/-- what stays, how far it goes -/
def zgdS (S : zST) (M : Nat) (s : zST × Nat) (c : Nat) : Prop := (∀ a k, a ≠ 1 → a ≠ 7 → s.1 a k = S a k) ∧ (0 ≤ s.1 1 0 ∧ s.1 1 0 ≤ 999999) ∧ M ≤ s.2 ∧ s.2 ≤ M + c ∧ ∀ k, k < s.2 → s.2 ≤ k + 20 → 0 ≤ s.1 7 k ∧ s.1 7 k < 700
theorem zgdS_1 {S : zST} {M : Nat} {s : zST × Nat} {c : Nat} (h : zgdS S M s c) {w p q : Nat} (hw : w < 6) (hp : p < 5) (hq : q < 5) : zgdS S M (zlgS s.1 s.2 ((100 * w + 10 * p + q : Nat) : Int), s.2 + 1) (c + 1) := by
  obtain ⟨h1, h2, h3, h4, h5⟩ := h
  refine ⟨fun a k q1 q2 => ?_, ?_, ?_, ?_, fun k q1 q2 => ?_⟩
  · show zlgS s.1 s.2 _ a k = _
    unfold zlgS
    rw [zuS_o (by omega), zuS_o (by omega)]; exact h1 a k q1 q2
  · show 0 ≤ zlgS s.1 s.2 ((100 * w + 10 * p + q : Nat) : Int) 1 0 ∧ zlgS s.1 s.2 ((100 * w + 10 * p + q : Nat) : Int) 1 0 ≤ 999999
    unfold zlgS
    rw [zuS_o (by omega), zuS_i]
    split <;> omega
  · show M ≤ s.2 + 1; omega
  · show s.2 + 1 ≤ M + (c + 1); omega
  · have q1' : k < s.2 + 1 := q1
    have q2' : s.2 + 1 ≤ k + 20 := q2
    show 0 ≤ zlgS s.1 s.2 ((100 * w + 10 * p + q : Nat) : Int) 7 k ∧ zlgS s.1 s.2 ((100 * w + 10 * p + q : Nat) : Int) 7 k < 700
    unfold zlgS
    by_cases z : k = s.2
    · subst z; rw [zuS_i]; omega
    · rw [zuS_o (by omega), zuS_o (by omega)]; exact h5 k (by omega) (by omega)
theorem zgdS_w {S : zST} {M : Nat} {s : zST × Nat} {c c' : Nat} (h : zgdS S M s c) (hc : c ≤ c') : zgdS S M s c' := ⟨h.1, h.2.1, h.2.2.1, by have := h.2.2.2.1; omega, h.2.2.2.2⟩
theorem zmeq_g {S : zST} {M : Nat} {T : Nat → Nat → Nat → Bool} {w p : Nat} (hw : w < 6) (hp : p < 5) {s : zST × Nat} {c : Nat} (h : zgdS S M s c) : ∀ q, q ≤ 5 → zgdS S M (zmeq T w p s q) (c + q)
  | 0, _ => h
  | q + 1, hq => by
    have ih := zmeq_g (T := T) hw hp h q (by omega)
    rw [zmeq_s]
    split
    · exact zgdS_1 ih hw hp (by omega)
    · exact zgdS_w ih (by omega)
theorem zmep_g {S : zST} {M : Nat} {T : Nat → Nat → Nat → Bool} {nP w : Nat} (hP : nP ≤ 5) (hw : w < 6) {s : zST × Nat} {c : Nat} (h : zgdS S M s c) : ∀ p, p ≤ nP → zgdS S M (zmep T nP w s p) (c + 5 * p)
  | 0, _ => h
  | p + 1, hp => by
    rw [zmep_s]
    exact zgdS_w (zmeq_g hw (by omega) (zmep_g (T := T) hP hw h p (by omega)) nP hP) (by omega)
theorem zmew_g {S : zST} {M : Nat} {T : Nat → Nat → Nat → Bool} {nP : Nat} (hP : nP ≤ 5) {s : zST × Nat} {c : Nat} (h : zgdS S M s c) : ∀ w, w ≤ 6 → zgdS S M (zmew T nP s w) (c + 25 * w)
  | 0, _ => h
  | w + 1, hw => by
    rw [zmew_s]
    exact zgdS_w (zmep_g hP (by omega) (zmew_g (T := T) hP h w (by omega)) nP (Nat.le_refl _)) (by omega)
theorem zmeq_no {T : Nat → Nat → Nat → Bool} {w p : Nat} {s : zST × Nat} : ∀ q, (∀ x, x < q → T w p x = false) → zmeq T w p s q = s
  | 0, _ => rfl
  | q + 1, h => by
    rw [zmeq_s, if_neg (by rw [h q (by omega)]; decide), zmeq_no q (fun x hx => h x (by omega))]
/-- who is at a wall's one side, at its other -/
def zTA (W : Nat → Nat → Int) (S : zST) (w p : Nat) : Bool := decide (S 4 p = W w 0 ∧ S 5 p = W w 1)
def zTB (W : Nat → Nat → Int) (S : zST) (w p : Nat) : Bool := decide (S 4 p = W w 2 ∧ S 5 p = W w 3)
def zTT (W : Nat → Nat → Int) (S : zST) (w p q : Nat) : Bool := zTA W S w p && zTB W S w q
theorem s_isAtA (d j p w : Nat) (hp : p < 5) (hw : w < 6) (μ : zM) (S : zST) (h1 : μ 16 j p = S 4 p) (h2 : μ 17 j p = S 5 p) (K : Int → zM → Prop) (h : K (if zTA (fun w c => μ 14 0 (4 * w + c)) S w p = true then 1 else 0) μ) : zC1 (d + 2) m_X5_isAtA [zR 4 j, zI (p : Int), zI (w : Int)] μ K := by
  refine k_X5_isAtA (d + 1) j p w μ K (s_wallPart d 0 w 0 hw (by omega) μ _ (s_wallPart d 0 w 1 hw (by omega) μ _ (s_isAt d j p hp _ _ μ _ (fun q1 q2 => ⟨Or.inr rfl, ?_⟩) (fun q => ⟨Or.inl rfl, ?_⟩))))
  · have e : zTA (fun w c => μ 14 0 (4 * w + c)) S w p = true := by
      unfold zTA
      exact decide_eq_true ⟨by rw [← h1]; exact q1, by rw [← h2]; exact q2⟩
    rw [if_pos e] at h; exact h
  · have e : ¬ zTA (fun w c => μ 14 0 (4 * w + c)) S w p = true := by
      unfold zTA
      intro z
      have z2 := of_decide_eq_true z
      exact q ⟨by rw [h1]; exact z2.1, by rw [h2]; exact z2.2⟩
    rw [if_neg e] at h; exact h
theorem s_isAtB (d j p w : Nat) (hp : p < 5) (hw : w < 6) (μ : zM) (S : zST) (h1 : μ 16 j p = S 4 p) (h2 : μ 17 j p = S 5 p) (K : Int → zM → Prop) (h : K (if zTB (fun w c => μ 14 0 (4 * w + c)) S w p = true then 1 else 0) μ) : zC1 (d + 2) m_X5_isAtB [zR 4 j, zI (p : Int), zI (w : Int)] μ K := by
  refine k_X5_isAtB (d + 1) j p w μ K (s_wallPart d 0 w 2 hw (by omega) μ _ (s_wallPart d 0 w 3 hw (by omega) μ _ (s_isAt d j p hp _ _ μ _ (fun q1 q2 => ⟨Or.inr rfl, ?_⟩) (fun q => ⟨Or.inl rfl, ?_⟩))))
  · have e : zTB (fun w c => μ 14 0 (4 * w + c)) S w p = true := by
      unfold zTB
      exact decide_eq_true ⟨by rw [← h1]; exact q1, by rw [← h2]; exact q2⟩
    rw [if_pos e] at h; exact h
  · have e : ¬ zTB (fun w c => μ 14 0 (4 * w + c)) S w p = true := by
      unfold zTB
      intro z
      have z2 := of_decide_eq_true z
      exact q ⟨by rw [h1]; exact z2.1, by rw [h2]; exact z2.2⟩
    rw [if_neg e] at h; exact h
theorem s_meetThrough (d j w nP : Nat) (hw : w < 6) (hp5 : nP ≤ 5) (μ : zM) (e1 : μ 3 0 3 = (nP : Int)) {S : zST} {M c : Nat} (hM : M + c + 25 ≤ 20000000) {s : zST × Nat} (hs : zgdS S M s c) (h : zLC μ nP j s.1 s.2) (K : zM → Prop) (hK : ∀ μ', zLC μ' nP j (zmep (zTT (fun w c => μ 14 0 (4 * w + c)) S) nP w s nP).1 (zmep (zTT (fun w c => μ 14 0 (4 * w + c)) S) nP w s nP).2 → (∀ t i k, ¬ (zlv t ∧ i = j) → μ' t i k = μ t i k) → K μ') : zC0 (d + 3) m_X5_meetThrough [zR 4 j, zI (w : Int)] μ K := by
  refine k_X5_meetThrough (d + 2) j w μ K ?_
  rw [e1]
  generalize hW : (fun w c => μ 14 0 (4 * w + c)) = W at hK
  have wf : ∀ μ' : zM, (∀ t i k, ¬ (zlv t ∧ i = j) → μ' t i k = μ t i k) → (fun w c => μ' 14 0 (4 * w + c)) = W := by
    intro μ' hf
    rw [← hW]
    funext a b
    exact hf _ _ _ (by unfold zlv; omega)
  have L : ∀ m p : Nat, p + m = nP → ∀ μ', zLC μ' nP j (zmep (zTT W S) nP w s p).1 (zmep (zTT W S) nP w s p).2 → (∀ t i k, ¬ (zlv t ∧ i = j) → μ' t i k = μ t i k) → zJ (d + 3) m_X5_meetThrough 10 [some (zR 4 j), some (zI (w : Int)), some (zI (nP : Int)), some (zI (p : Int)), none] μ' (zQ0 K) := by
    intro m
    induction m with
    | zero =>
      intro p hp μ' hl hf
      refine k_X5_meetThrough_10 (d + 2) j w nP p μ' K ⟨fun _ => ?_, fun q => absurd q (by omega)⟩
      rw [show p = nP by omega] at hl
      exact hK μ' hl hf
    | succ m ih =>
      intro p hp μ' hl hf
      have hg := zmep_g (T := zTT W S) hp5 hw hs p (by omega)
      refine k_X5_meetThrough_10 (d + 2) j w nP p μ' K ⟨fun q => absurd q (by omega), fun _ => s_isAtA d j p w (by omega) hw μ' S (by rw [(hl.2.2.2.2.1 p (by omega)).1]; exact hg.1 4 p (by omega) (by omega)) (by rw [(hl.2.2.2.2.1 p (by omega)).2.1]; exact hg.1 5 p (by omega) (by omega)) _ ?_⟩
      rw [wf μ' hf, z_fix (by omega) (by omega)]
      by_cases qa : zTA W S w p = true
      · rw [if_pos qa]
        refine ⟨fun _ => ?_, fun z => absurd (show (1 : Int) ≠ 0 by decide) z⟩
        have L2 : ∀ m2 q : Nat, q + m2 = nP → ∀ μ', zLC μ' nP j (zmeq (zTT W S) w p (zmep (zTT W S) nP w s p) q).1 (zmeq (zTT W S) w p (zmep (zTT W S) nP w s p) q).2 → (∀ t i k, ¬ (zlv t ∧ i = j) → μ' t i k = μ t i k) → zJ (d + 3) m_X5_meetThrough 30 [some (zR 4 j), some (zI (w : Int)), some (zI (nP : Int)), some (zI (p : Int)), some (zI (q : Int))] μ' (zQ0 K) := by
          intro m2
          induction m2 with
          | zero =>
            intro q hq μ' hl hf
            refine k_X5_meetThrough_30 (d + 2) j w nP p q μ' K ⟨fun _ => ?_, fun z => absurd z (by omega)⟩
            rw [z_fix (by omega) (by omega)]
            refine ih (p + 1) (by omega) μ' ?_ hf
            rw [zmep_s, ← show q = nP by omega]
            rw [show q = nP by omega] at hl ⊢
            exact hl
          | succ m2 ih2 =>
            intro q hq μ' hl hf
            have hg2 := zmeq_g (T := zTT W S) hw (show p < 5 by omega) hg q (by omega)
            refine k_X5_meetThrough_30 (d + 2) j w nP p q μ' K ⟨fun z => absurd z (by omega), fun _ => s_isAtB d j q w (by omega) hw μ' S (by rw [(hl.2.2.2.2.1 q (by omega)).1]; exact hg2.1 4 q (by omega) (by omega)) (by rw [(hl.2.2.2.2.1 q (by omega)).2.1]; exact hg2.1 5 q (by omega) (by omega)) _ ?_⟩
            rw [wf μ' hf, z_fix (by omega) (by omega)]
            by_cases qb : zTB W S w q = true
            · rw [if_pos qb]
              have hT : zTT W S w p q = true := by unfold zTT; rw [qa, qb]; rfl
              refine ⟨fun z => absurd z (by decide), fun _ => s_addMeeting (d + 1) j w p q hw (by omega) (by omega) μ' hl hg2.2.1 (by have := hg2.2.2.2.1; omega) _ (fun μ2 hl2 hf2 => ?_)⟩
              refine ih2 (q + 1) (by omega) μ2 ?_ (fun t i k z => (hf2 t i k z).trans (hf t i k z))
              rw [zmeq_s, if_pos hT]
              exact hl2
            · rw [if_neg qb]
              have hT : ¬ zTT W S w p q = true := by unfold zTT; intro z; rw [qa] at z; exact qb z
              refine ⟨fun _ => ih2 (q + 1) (by omega) μ' ?_ hf, fun z => absurd rfl z⟩
              rw [zmeq_s, if_neg hT]
              exact hl
        exact L2 nP 0 (by omega) μ' hl hf
      · rw [if_neg qa]
        refine ⟨fun z => absurd rfl z, fun _ => ih (p + 1) (by omega) μ' ?_ hf⟩
        rw [zmep_s, zmeq_no nP (fun x _ => by unfold zTT; rw [show zTA W S w p = false by simpa using qa]; rfl)]
        exact hl
  exact L nP 0 (by omega) μ h (fun _ _ _ _ => rfl)
