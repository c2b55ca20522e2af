/-! THE TEXT, clause by clause: the class -/
def zDr (μ : zM) (R : Nat → Int) : Prop := (μ 3 1 1 = R 0 ∧ μ 3 1 2 = R 1 ∧ μ 3 1 3 = R 2 ∧ μ 3 1 4 = R 3) ∧ (∀ r : Nat, r < 6 → (r : Int) < R 1 → μ 10 1 r = R (4 + r)) ∧ (∀ k, k < 72 → μ 11 1 k = R (16 + k) ∧ μ 12 1 k = R (88 + k)) ∧ (∀ p w : Nat, p < 5 → (p : Int) < R 2 → w < 3 → μ 13 1 (3 * p + w) = R (160 + 5 * w + p)) ∧ ∀ w c : Nat, w < 6 → (w : Int) < R 3 → c < 4 → μ 14 1 (4 * w + c) = R (175 + 6 * c + w)
def zDu (μ : zM) (R : Nat → Int) : Prop := zset12 (μ 3 1 5) ∧ ∀ r, r < 6 → R (10 + r) = if zbit (μ 3 1 5) r = true then 1 else 0
theorem zDr_cg {μ μ' : zM} {R : Nat → Int} (h : ∀ t k, (t = 3 ∧ 1 ≤ k ∧ k ≤ 4) ∨ (10 ≤ t ∧ t ≤ 14) → μ' t 1 k = μ t 1 k) (q : zDr μ R) : zDr μ' R := by
  obtain ⟨⟨q1, q2, q3, q4⟩, q5, q6, q7, q8⟩ := q
  exact ⟨⟨by rw [h _ _ (by omega)]; exact q1, by rw [h _ _ (by omega)]; exact q2, by rw [h _ _ (by omega)]; exact q3, by rw [h _ _ (by omega)]; exact q4⟩, fun r a b => by rw [h _ _ (by omega)]; exact q5 r a b, fun k a => by rw [h _ _ (by omega), h _ _ (by omega)]; exact q6 k a, fun p w a b c => by rw [h _ _ (by omega)]; exact q7 p w a b c, fun w x a b c => by rw [h _ _ (by omega)]; exact q8 w x a b c⟩
theorem zDr_same {μ μ' : zM} {R : Nat → Int} (s : zsame μ μ') (q : zDr μ R) : zDr μ' R := zDr_cg (fun t k z => s _ _ _ (by omega)) q
theorem zDu_same {μ μ' : zM} {R : Nat → Int} (s : zsame μ μ') (q : zDu μ R) : zDu μ' R := by
  unfold zDu at q ⊢
  rw [s _ _ _ (by omega)]; exact q
theorem zDr_damp {μ : zM} {R : Nat → Int} (q : zDr μ R) (v : Int) : zDr (zset μ 3 1 1 v) (zu R 0 v) := by
  obtain ⟨⟨q1, q2, q3, q4⟩, q5, q6, q7, q8⟩ := q
  exact ⟨⟨by rw [zset_self, zu_i], by rw [zo (by omega), zu_o (by omega)]; exact q2, by rw [zo (by omega), zu_o (by omega)]; exact q3, by rw [zo (by omega), zu_o (by omega)]; exact q4⟩, fun r a b => by rw [zu_o (by omega)] at b; rw [zo (by omega), zu_o (by omega)]; exact q5 r a b, fun k a => by rw [zo (by omega), zo (by omega), zu_o (by omega), zu_o (by omega)]; exact q6 k a, fun p w a b c => by rw [zu_o (by omega)] at b; rw [zo (by omega), zu_o (by omega)]; exact q7 p w a b c, fun w x a b c => by rw [zu_o (by omega)] at b; rw [zo (by omega), zu_o (by omega)]; exact q8 w x a b c⟩
theorem zDr_paper {μ : zM} {R : Nat → Int} (q : zDr μ R) (k : Nat) (hk : k < 72) (v : Int) : zDr (zset μ 11 1 k v) (zu R (16 + k) v) := by
  obtain ⟨⟨q1, q2, q3, q4⟩, q5, q6, q7, q8⟩ := q
  refine ⟨⟨by rw [zo (by omega), zu_o (by omega)]; exact q1, by rw [zo (by omega), zu_o (by omega)]; exact q2, by rw [zo (by omega), zu_o (by omega)]; exact q3, by rw [zo (by omega), zu_o (by omega)]; exact q4⟩, fun r a b => by rw [zu_o (by omega)] at b; rw [zo (by omega), zu_o (by omega)]; exact q5 r a b, fun j a => ?_, fun p w a b c => by rw [zu_o (by omega)] at b; rw [zo (by omega), zu_o (by omega)]; exact q7 p w a b c, fun w x a b c => by rw [zu_o (by omega)] at b; rw [zo (by omega), zu_o (by omega)]; exact q8 w x a b c⟩
  rw [zo (μ := μ) (t' := 12) (by omega), zu_o (x := 88 + j) (by omega)]
  refine ⟨?_, (q6 j a).2⟩
  by_cases e : j = k
  · subst e; rw [zset_self, zu_i]
  · rw [zo (by omega), zu_o (by omega)]; exact (q6 j a).1
theorem zDr_under {μ : zM} {R : Nat → Int} (q : zDr μ R) (k : Nat) (hk : k < 72) (v : Int) : zDr (zset μ 12 1 k v) (zu R (88 + k) v) := by
  obtain ⟨⟨q1, q2, q3, q4⟩, q5, q6, q7, q8⟩ := q
  refine ⟨⟨by rw [zo (by omega), zu_o (by omega)]; exact q1, by rw [zo (by omega), zu_o (by omega)]; exact q2, by rw [zo (by omega), zu_o (by omega)]; exact q3, by rw [zo (by omega), zu_o (by omega)]; exact q4⟩, fun r a b => by rw [zu_o (by omega)] at b; rw [zo (by omega), zu_o (by omega)]; exact q5 r a b, fun j a => ?_, fun p w a b c => by rw [zu_o (by omega)] at b; rw [zo (by omega), zu_o (by omega)]; exact q7 p w a b c, fun w x a b c => by rw [zu_o (by omega)] at b; rw [zo (by omega), zu_o (by omega)]; exact q8 w x a b c⟩
  rw [zo (μ := μ) (t' := 11) (by omega), zu_o (x := 16 + j) (by omega)]
  refine ⟨(q6 j a).1, ?_⟩
  by_cases e : j = k
  · subst e; rw [zset_self, zu_i]
  · rw [zo (by omega), zu_o (by omega)]; exact (q6 j a).2
theorem zDr_room {μ : zM} {R : Nat → Int} (q : zDr μ R) {n : Nat} (hn : n < 6) (e : R 1 = (n : Int)) (c : Int) : zDr (zset (zset μ 10 1 n c) 3 1 2 ((n : Int) + 1)) (zu (zu R (4 + n) c) 1 ((n : Int) + 1)) := by
  obtain ⟨⟨q1, q2, q3, q4⟩, q5, q6, q7, q8⟩ := q
  refine ⟨⟨by rw [zo (by omega), zo (by omega), zu_o (by omega), zu_o (by omega)]; exact q1, by rw [zset_self, zu_i], by rw [zo (by omega), zo (by omega), zu_o (by omega), zu_o (by omega)]; exact q3, by rw [zo (by omega), zo (by omega), zu_o (by omega), zu_o (by omega)]; exact q4⟩, fun r a b => ?_, fun j a => by rw [zo (by omega), zo (by omega), zo (by omega), zo (by omega), zu_o (by omega), zu_o (by omega), zu_o (by omega), zu_o (by omega)]; exact q6 j a, fun p w a b c => by rw [zu_o (by omega), zu_o (by omega)] at b; rw [zo (by omega), zo (by omega), zu_o (by omega), zu_o (by omega)]; exact q7 p w a b c, fun w x a b c => by rw [zu_o (by omega), zu_o (by omega)] at b; rw [zo (by omega), zo (by omega), zu_o (by omega), zu_o (by omega)]; exact q8 w x a b c⟩
  rw [zu_i] at b
  rw [zo (by omega), zu_o (by omega)]
  by_cases z : r = n
  · subst z; rw [zset_self, zu_i]
  · rw [zo (by omega), zu_o (by omega)]; exact q5 r a (by omega)
theorem zDr_person {μ : zM} {R : Nat → Int} (q : zDr μ R) {n : Nat} (hn : n < 5) (e : R 2 = (n : Int)) (u1 u2 u3 : Int) : zDr (zset (zset (zset (zset μ 13 1 (3 * n) u1) 13 1 (3 * n + 1) u2) 13 1 (3 * n + 2) u3) 3 1 3 ((n : Int) + 1)) (zu (zu (zu (zu R (160 + n) u1) (165 + n) u2) 2 ((n : Int) + 1)) (170 + n) u3) := by
  obtain ⟨⟨q1, q2, q3, q4⟩, q5, q6, q7, q8⟩ := q
  have g : ∀ k, k ≠ 2 → k ≠ 160 + n → k ≠ 165 + n → k ≠ 170 + n → zu (zu (zu (zu R (160 + n) u1) (165 + n) u2) 2 ((n : Int) + 1)) (170 + n) u3 k = R k := fun k q1 q2 q3 q4 => by
    rw [zu_o q4, zu_o q1, zu_o q3, zu_o q2]
  have g2 : zu (zu (zu (zu R (160 + n) u1) (165 + n) u2) 2 ((n : Int) + 1)) (170 + n) u3 2 = (n : Int) + 1 := by rw [zu_o (by omega), zu_i]
  have f : ∀ t k, t ≠ 13 → ¬ (t = 3 ∧ k = 3) → (zset (zset (zset (zset μ 13 1 (3 * n) u1) 13 1 (3 * n + 1) u2) 13 1 (3 * n + 2) u3) 3 1 3 ((n : Int) + 1)) t 1 k = μ t 1 k := fun t k a b => by rw [zo (by omega), zo (by omega), zo (by omega), zo (by omega)]
  refine ⟨⟨by rw [f _ _ (by omega) (by omega), g _ (by omega) (by omega) (by omega) (by omega)]; exact q1, by rw [f _ _ (by omega) (by omega), g _ (by omega) (by omega) (by omega) (by omega)]; exact q2, by rw [zset_self, g2], by rw [f _ _ (by omega) (by omega), g _ (by omega) (by omega) (by omega) (by omega)]; exact q4⟩, fun r a b => ?_, fun j a => ?_, fun p w a b c => ?_, fun w x a b c => ?_⟩
  · rw [g 1 (by omega) (by omega) (by omega) (by omega)] at b
    rw [f _ _ (by omega) (by omega), g _ (by omega) (by omega) (by omega) (by omega)]; exact q5 r a b
  · rw [f _ _ (by omega) (by omega), f _ _ (by omega) (by omega), g _ (by omega) (by omega) (by omega) (by omega), g _ (by omega) (by omega) (by omega) (by omega)]; exact q6 j a
  · rw [g2] at b
    rw [zo (by omega)]
    by_cases z : p = n
    · subst z
      rcases (show w = 0 ∨ w = 1 ∨ w = 2 by omega) with rfl | rfl | rfl
      · rw [zo (by omega), zo (by omega), show 3 * p + 0 = 3 * p by omega, zset_self, zu_o (by omega), zu_o (by omega), zu_o (by omega), show 160 + 5 * 0 + p = 160 + p by omega, zu_i]
      · rw [zo (by omega), zset_self, zu_o (by omega), zu_o (by omega), show 160 + 5 * 1 + p = 165 + p by omega, zu_i]
      · rw [zset_self, show 160 + 5 * 2 + p = 170 + p by omega, zu_i]
    · rw [zo (by omega), zo (by omega), zo (by omega), g _ (by omega) (by omega) (by omega) (by omega)]
      exact q7 p w a (by omega) c
  · rw [g 3 (by omega) (by omega) (by omega) (by omega)] at b
    rw [f _ _ (by omega) (by omega), g _ (by omega) (by omega) (by omega) (by omega)]; exact q8 w x a b c
theorem zDr_wall {μ : zM} {R : Nat → Int} (q : zDr μ R) {n : Nat} (hn : n < 6) (e : R 3 = (n : Int)) (u1 u2 u3 u4 : Int) : zDr (zset (zset (zset (zset (zset μ 14 1 (4 * n) u1) 14 1 (4 * n + 1) u2) 14 1 (4 * n + 2) u3) 14 1 (4 * n + 3) u4) 3 1 4 ((n : Int) + 1)) (zu (zu (zu (zu (zu R (175 + n) u1) (181 + n) u2) (187 + n) u3) 3 ((n : Int) + 1)) (193 + n) u4) := by
  obtain ⟨⟨q1, q2, q3, q4⟩, q5, q6, q7, q8⟩ := q
  have g : ∀ k, k ≠ 3 → k ≠ 175 + n → k ≠ 181 + n → k ≠ 187 + n → k ≠ 193 + n → zu (zu (zu (zu (zu R (175 + n) u1) (181 + n) u2) (187 + n) u3) 3 ((n : Int) + 1)) (193 + n) u4 k = R k := fun k q1 q2 q3 q4 q5 => by
    rw [zu_o q5, zu_o q1, zu_o q4, zu_o q3, zu_o q2]
  have g2 : zu (zu (zu (zu (zu R (175 + n) u1) (181 + n) u2) (187 + n) u3) 3 ((n : Int) + 1)) (193 + n) u4 3 = (n : Int) + 1 := by rw [zu_o (by omega), zu_i]
  have f : ∀ t k, t ≠ 14 → ¬ (t = 3 ∧ k = 4) → (zset (zset (zset (zset (zset μ 14 1 (4 * n) u1) 14 1 (4 * n + 1) u2) 14 1 (4 * n + 2) u3) 14 1 (4 * n + 3) u4) 3 1 4 ((n : Int) + 1)) t 1 k = μ t 1 k := fun t k a b => by rw [zo (by omega), zo (by omega), zo (by omega), zo (by omega), zo (by omega)]
  refine ⟨⟨by rw [f _ _ (by omega) (by omega), g _ (by omega) (by omega) (by omega) (by omega) (by omega)]; exact q1, by rw [f _ _ (by omega) (by omega), g _ (by omega) (by omega) (by omega) (by omega) (by omega)]; exact q2, by rw [f _ _ (by omega) (by omega), g _ (by omega) (by omega) (by omega) (by omega) (by omega)]; exact q3, by rw [zset_self, g2]⟩, fun r a b => ?_, fun j a => ?_, fun p w a b c => ?_, fun w x a b c => ?_⟩
  · rw [g 1 (by omega) (by omega) (by omega) (by omega) (by omega)] at b
    rw [f _ _ (by omega) (by omega), g _ (by omega) (by omega) (by omega) (by omega) (by omega)]; exact q5 r a b
  · rw [f _ _ (by omega) (by omega), f _ _ (by omega) (by omega), g _ (by omega) (by omega) (by omega) (by omega) (by omega), g _ (by omega) (by omega) (by omega) (by omega) (by omega)]; exact q6 j a
  · rw [g 2 (by omega) (by omega) (by omega) (by omega) (by omega)] at b
    rw [f _ _ (by omega) (by omega), g _ (by omega) (by omega) (by omega) (by omega) (by omega)]; exact q7 p w a b c
  · rw [g2] at b
    rw [zo (by omega)]
    by_cases z : w = n
    · subst z
      rcases (show x = 0 ∨ x = 1 ∨ x = 2 ∨ x = 3 by omega) with rfl | rfl | rfl | rfl
      · rw [zo (by omega), zo (by omega), zo (by omega), show 4 * w + 0 = 4 * w by omega, zset_self, zu_o (by omega), zu_o (by omega), zu_o (by omega), zu_o (by omega), show 175 + 6 * 0 + w = 175 + w by omega, zu_i]
      · rw [zo (by omega), zo (by omega), zset_self, zu_o (by omega), zu_o (by omega), zu_o (by omega), show 175 + 6 * 1 + w = 181 + w by omega, zu_i]
      · rw [zo (by omega), zset_self, zu_o (by omega), zu_o (by omega), show 175 + 6 * 2 + w = 187 + w by omega, zu_i]
      · rw [zset_self, show 175 + 6 * 3 + w = 193 + w by omega, zu_i]
    · rw [zo (by omega), zo (by omega), zo (by omega), zo (by omega), g _ (by omega) (by omega) (by omega) (by omega) (by omega)]
      exact q8 w x a (by omega) c
/-- DAMP -/
theorem b_dampTail (d : Nat) {μ0 μ : zM} {L f p : Nat} (hL : L ≤ 240) (h : zBd μ0 L f p μ) (K : zM → Prop) (hK : ∀ μ', zBd μ0 L f p μ' → K μ') : zC1 (d + 2) m_X7_readNumber [zR 2 0, zI 99] μ (fun x4 μ4 => zC0 (d + 2) m_X7_expect [zR 2 0, zI 59] (zset μ4 3 1 1 x4) (fun μ5 => K μ5)) :=
  b_number d 99 hL h _ (fun v μ1 h1 => b_expect d 59 (by decide) hL (zBd_put h1 3 1 v (by omega) (by omega)) _ (fun μ2 h2 => hK μ2 h2))
theorem c_damp (d a L : Nat) (hL : L ≤ 240) (ha : a < L) {μ0 μ : zM} {R : Nat → Int} (h : zGst μ0 L a μ) (hD : zDr μ R) (hU : zDu μ R) (ht : μ 3 1 0 = 0) (K : zM → Prop) (h1 : ∀ e R' μ', zcD (μ0 20 0) L (a + 1) R = .inr (e, R') → zGst μ0 L e μ' → zDr μ' R' → zDu μ' R' → μ' 3 1 0 = 1 → K μ') (h2 : ∀ f b μ', zcD (μ0 20 0) L (a + 1) R = .inl (f, b) → zBd μ0 L f b μ' → K μ') : zC0 (d + 3) m_X7_readDamp [zR 2 0] μ K := by
  refine k_X7_readDamp (d + 2) μ K ⟨fun _ => ⟨Or.inr rfl, ?_⟩, fun q => absurd ht q⟩
  rw [h.2.1, z_fix (show (-2147483648 : Int) ≤ (a : Int) + 1 by omega) (by omega), show (a : Int) + 1 = ((a + 1 : Nat) : Int) by omega]
  have g1 : zGst μ0 L (a + 1) (zset (zset μ 2 0 3 ((a + 1 : Nat) : Int)) 3 1 0 1) := zGs_put (zGs_at h (a + 1) (by omega)) 3 0 1 (by omega) (by omega)
  have d1 : zDr (zset (zset μ 2 0 3 ((a + 1 : Nat) : Int)) 3 1 0 1) R := zDr_cg (fun t k z => by rw [zo (by omega), zo (by omega)]) hD
  have u1 : zDu (zset (zset μ 2 0 3 ((a + 1 : Nat) : Int)) 3 1 0 1) R := by
    unfold zDu at hU ⊢
    rw [zo (by omega), zo (by omega)]; exact hU
  refine g_number d (a + 1) L 99 hL g1 _ (fun v e μ1 hz g2 s _ => ?_) (fun f b v μ1 hz hb => ?_)
  · refine g_expect d e L 59 (by decide) hL (zGs_put g2 3 1 v (by omega) (by omega)) _ (fun e' μ2 hp g3 s2 => h1 e' (zu R 0 v) μ2 ?_ g3 (zDr_same s2 (zDr_damp (zDr_same s d1) v)) ?_ ?_) (fun f b μ2 hp hb => h2 f b μ2 ?_ hb)
    · unfold zcD
      rw [hz]
      show zbnd (zPun (μ0 20 0) L e 59) _ = _
      rw [hp]; rfl
    · refine zDu_same s2 ?_
      have u2 := zDu_same s u1
      unfold zDu at u2 ⊢
      rw [zo (by omega)]
      refine ⟨u2.1, fun r hr => ?_⟩
      rw [zu_o (by omega)]; exact u2.2 r hr
    · rw [s2 _ _ _ (by omega), zo (by omega), s _ _ _ (by omega), zset_self]
    · unfold zcD
      rw [hz]
      show zbnd (zPun (μ0 20 0) L e 59) _ = _
      rw [hp]; rfl
  · refine b_expect d 59 (by decide) hL (zBd_put hb 3 1 v (by omega) (by omega)) _ (fun μ2 hb2 => h2 f b μ2 ?_ hb2)
    unfold zcD
    rw [hz]; rfl
theorem c_damp2 (d a L : Nat) (hL : L ≤ 240) (ha : a < L) {μ0 μ : zM} (h : zGst μ0 L a μ) (ht : μ 3 1 0 ≠ 0) (K : zM → Prop) (h2 : ∀ μ', zBd μ0 L 3 a μ' → K μ') : zC0 (d + 3) m_X7_readDamp [zR 2 0] μ K := by
  refine k_X7_readDamp (d + 2) μ K ⟨fun q => absurd q ht, fun _ => g_fail _ a L 3 (by decide) _ a h.2.1 h _ (fun μ1 hb e1 => ⟨Or.inr rfl, ?_⟩)⟩
  rw [e1, z_fix (show (-2147483648 : Int) ≤ (a : Int) + 1 by omega) (by omega), show (a : Int) + 1 = ((a + 1 : Nat) : Int) by omega]
  exact b_dampTail d hL (zBd_put (zBd_at hb (a + 1) (by omega)) 3 0 1 (by omega) (by omega)) K h2
/-- a ROOM -/
theorem b_room33 (d : Nat) {μ0 : zM} {L f p : Nat} (hL : L ≤ 240) (K : zM → Prop) (hK : ∀ μ', zBd μ0 L f p μ' → K μ') : ∀ m n : Nat, n + m = 11 → ∀ μ, zBd μ0 L f p μ → zJ (d + 3) m_X7_readRoom 33 [some (zR 2 0), some (zI (n : Int))] μ (zQ0 K) := by
  intro m
  induction m with
  | zero =>
    intro n hn μ h
    refine k_X7_readRoom_33 (d + 2) n μ K (b_number d 9 hL h _ (fun v μ1 h1 => b_putPaper (d + 1) _ _ _ h1 _ (fun μ2 h2 => ⟨fun _ => b_expect d 59 (by decide) hL h2 _ (fun μ3 h3 => b_addRoom (d + 1) _ ?_ h3 _ (fun μ4 h4 => hK μ4 h4)), fun q => ?_⟩)))
    · rw [z_fix (by omega) (by omega)]; omega
    · rw [z_fix (by omega) (by omega)] at q; exact absurd q (by omega)
  | succ m ih =>
    intro n hn μ h
    refine k_X7_readRoom_33 (d + 2) n μ K (b_number d 9 hL h _ (fun v μ1 h1 => b_putPaper (d + 1) _ _ _ h1 _ (fun μ2 h2 => ⟨fun q => ?_, fun _ => b_accept d 44 (by decide) hL h2 _ (fun x μ3 hx h3 => ⟨fun _ => ?_, fun _ => b_expect d 59 (by decide) hL h3 _ (fun μ4 h4 => b_addRoom (d + 1) _ ?_ h4 _ (fun μ5 h5 => hK μ5 h5))⟩)⟩)))
    · rw [z_fix (by omega) (by omega)] at q; exact absurd q (by omega)
    · rw [z_fix (by omega) (by omega)]
      exact ih (n + 1) (by omega) μ3 h3
    · rw [z_fix (by omega) (by omega)]; omega
theorem zsb_id {T : Nat → Int} {L a : Nat} (ha : a ≤ L) : zsb T L (zsb T L a) = zsb T L a := by
  have hb := zsb_rg T ha
  exact zsb_n hb.2 (fun q => zsb_not (L - a) a (by omega) q)
/-- a row, behind a number -/
def zrz (T : Nat → Int) (L base fewest most m n e : Nat) (R1 : Nat → Int) : zRs (Nat × Nat × (Nat → Int)) := if zlt T L (zsb T L e) = 44 then (if n + 1 = most then .inl (1, zsb T L e) else zrw T L base fewest most m (n + 1) (zsb T L e + 1) R1) else if zlt T L (zsb T L e) = 59 ∧ fewest ≤ n + 1 then .inr (n + 1, zsb T L e + 1, R1) else .inl (1, zsb T L e)
theorem zrw_z {T : Nat → Int} {L base fewest most m n a : Nat} {R : Nat → Int} {v : Int} {e : Nat} (h : zNum T L a 9 = .inr (v, e)) : zrw T L base fewest most (m + 1) n a R = zrz T L base fewest most m n e (zu R (base + n) v) := by
  rw [zrw_s, h]; rfl
theorem zrw_l {T : Nat → Int} {L base fewest most m n a : Nat} {R : Nat → Int} {f : Nat × Nat} (h : zNum T L a 9 = .inl f) : zrw T L base fewest most (m + 1) n a R = .inl f := by
  rw [zrw_s, h]; rfl
theorem c_room33 (d L rn : Nat) (hL : L ≤ 240) (hrn : rn < 6) {μ0 : zM} (K : zM → Prop) : ∀ m n : Nat, n + m = 12 → 1 ≤ m → ∀ (a : Nat) (R : Nat → Int) (μ : zM), zGst μ0 L a μ → zDr μ R → zDu μ R → R 1 = (rn : Int) → μ 3 1 0 = 1 → (∀ c e R' μ', zrw (μ0 20 0) L (16 + 12 * rn) 1 12 m n a R = .inr (c, e, R') → zGst μ0 L e μ' → zDr μ' (zu (zu R' (4 + rn) (c : Int)) 1 ((rn : Int) + 1)) → zDu μ' (zu (zu R' (4 + rn) (c : Int)) 1 ((rn : Int) + 1)) → μ' 3 1 0 = 1 → K μ') → (∀ f b μ', zrw (μ0 20 0) L (16 + 12 * rn) 1 12 m n a R = .inl (f, b) → zBd μ0 L f b μ' → K μ') → zJ (d + 3) m_X7_readRoom 33 [some (zR 2 0), some (zI (n : Int))] μ (zQ0 K) := by
  intro m
  induction m with
  | zero => intro n hn hm; omega
  | succ m ih =>
    intro n hn hm a R μ h hD hU e1 ht h1 h2
    have eR : μ 3 1 2 = (rn : Int) := by rw [hD.1.2.1]; exact e1
    refine k_X7_readRoom_33 (d + 2) n μ K (g_number d a L 9 hL h _ (fun v e μ1 hz g2 s _ => ?_) (fun f b v μ1 hz hb => b_putPaper (d + 1) _ _ _ hb _ (fun μ2 hb2 => ?_)))
    · rw [eR]
      rw [zrw_z hz] at h1 h2
      have he := g2.2.2.1
      have hsb := zsb_rg (μ0 20 0) he
      refine k_X1_putPaper (d + 1) 1 _ _ _ μ1 _ ?_
      rw [z_fix (show (-2147483648 : Int) ≤ (rn : Int) * 12 by omega) (by omega), z_fix (show (-2147483648 : Int) ≤ (rn : Int) * 12 + (n : Int) by omega) (by omega), show (rn : Int) * 12 + (n : Int) = ((12 * rn + n : Nat) : Int) by omega, z_fix (show (-2147483648 : Int) ≤ (n : Int) + 1 by omega) (by omega)]
      refine s_put_11 _ 1 (12 * rn + n) (by omega) v μ1 _ ?_
      have g3 := zGs_put g2 11 (12 * rn + n) v (by omega) (by omega)
      have hD3 := zDr_paper (zDr_same s hD) (12 * rn + n) (by omega) v
      rw [show 16 + (12 * rn + n) = 16 + 12 * rn + n by omega] at hD3
      have hU3 : zDu (zset μ1 11 1 (12 * rn + n) v) (zu R (16 + 12 * rn + n) v) := by
        have u2 := zDu_same s hU
        unfold zDu at u2 ⊢
        rw [zo (by omega)]
        exact ⟨u2.1, fun r hr => by rw [zu_o (by omega)]; exact u2.2 r hr⟩
      have e3 : (zu R (16 + 12 * rn + n) v) 1 = (rn : Int) := by rw [zu_o (by omega)]; exact e1
      have t3 : (zset μ1 11 1 (12 * rn + n) v) 3 1 0 = 1 := by rw [zo (by omega), s _ _ _ (by omega)]; exact ht
      generalize zset μ1 11 1 (12 * rn + n) v = ν at g3 hD3 hU3 t3 ⊢
      generalize zu R (16 + 12 * rn + n) v = R1 at hD3 hU3 e3 h1 h2
      have fin : ∀ (c : Nat) (e' : Nat) (μ3 : zM), c = n + 1 → zsame ν μ3 → zGst μ0 L e' μ3 → zlt (μ0 20 0) L (zsb (μ0 20 0) L e) = 59 → e' = zsb (μ0 20 0) L e + 1 → zC0 (d + 2) m_X1_addRoom [zR 3 1, zI (c : Int)] μ3 (fun μ4 => K μ4) := by
        intro c e' μ3 hc s3 g4 h59 he'
        subst hc; subst he'
        have er : μ3 3 1 2 = (rn : Int) := by rw [s3 _ _ _ (by omega), hD3.1.2.1]; exact e3
        refine k_X1_addRoom (d + 1) 1 _ μ3 _ ?_
        rw [er]
        refine s_put_10 _ 1 rn (by omega) _ μ3 _ ?_
        rw [zo (by omega), er, z_fix (by omega) (by omega)]
        refine h1 (n + 1) _ R1 _ ?_ (zGs_put (zGs_put g4 10 rn _ (by omega) (by omega)) 3 2 _ (by omega) (by omega)) (zDr_room (zDr_same s3 hD3) hrn e3 _) ?_ ?_
        · show (if zlt (μ0 20 0) L (zsb (μ0 20 0) L e) = 44 then _ else if zlt (μ0 20 0) L (zsb (μ0 20 0) L e) = 59 ∧ 1 ≤ n + 1 then _ else _) = _
          rw [if_neg (by omega), if_pos ⟨h59, by omega⟩]
        · have u4 := zDu_same s3 hU3
          unfold zDu at u4 ⊢
          rw [zo (by omega), zo (by omega)]
          exact ⟨u4.1, fun r hr => by rw [zu_o (by omega), zu_o (by omega)]; exact u4.2 r hr⟩
        · rw [zo (by omega), zo (by omega), s3 _ _ _ (by omega)]; exact t3
      have bad : ∀ (c : Int) (f b : Nat) (μ3 : zM), c ≤ 12 → f = 1 → b = zsb (μ0 20 0) L e → zlt (μ0 20 0) L (zsb (μ0 20 0) L e) ≠ 59 → (zlt (μ0 20 0) L (zsb (μ0 20 0) L e) ≠ 44 ∨ n + 1 = 12) → zBd μ0 L f b μ3 → zC0 (d + 2) m_X1_addRoom [zR 3 1, zI c] μ3 (fun μ4 => K μ4) := by
        intro c f b μ3 hc hf hb h59 h44 hB
        refine b_addRoom (d + 1) c hc hB _ (fun μ4 h4 => h2 f b μ4 ?_ h4)
        subst hf; subst hb
        show (if zlt (μ0 20 0) L (zsb (μ0 20 0) L e) = 44 then _ else if zlt (μ0 20 0) L (zsb (μ0 20 0) L e) = 59 ∧ 1 ≤ n + 1 then _ else _) = _
        by_cases q : zlt (μ0 20 0) L (zsb (μ0 20 0) L e) = 44
        · rw [if_pos q, if_pos (by omega)]
        · rw [if_neg q, if_neg (fun z => h59 z.1)]
      refine ⟨fun q => ?_, fun q => ?_⟩
      · refine g_expect d e L 59 (by decide) hL g3 _ (fun e' μ3 hp g4 s3 => ?_) (fun f b μ3 hp hb => ?_)
        · have hp2 := zPun_r (by decide) hp
          exact fin (n + 1) e' μ3 rfl s3 g4 hp2.2.2 hp2.1
        · have hp2 := zPun_f hp
          exact bad _ f b μ3 (by omega) hp2.1 hp2.2.1 hp2.2.2 (Or.inr (by omega)) hb
      · refine e_accept d e L 44 hL he ν g3.2.1 g3.1 _ (fun μ3 h44 s3 e4 => ?_) (fun μ3 h44 s3 e4 => ?_)
        · rw [zGs_T g3] at h44 e4
          have hlt := zlt_lt h44 (by decide)
          refine ⟨fun _ => ih (n + 1) (by omega) (by omega) (zsb (μ0 20 0) L e + 1) R1 μ3 (zGs_same g3 s3 e4 (by omega)) (zDr_same s3 hD3) (zDu_same s3 hU3) e3 (by rw [s3 _ _ _ (by omega)]; exact t3) (fun c e' R' μ' hw g5 d5 u5 t5 => h1 c e' R' μ' ?_ g5 d5 u5 t5) (fun f b μ' hw hb => h2 f b μ' ?_ hb), fun z => absurd (show (1 : Int) ≠ 0 by decide) z⟩
          · show (if zlt (μ0 20 0) L (zsb (μ0 20 0) L e) = 44 then _ else _) = _
            rw [if_pos h44, if_neg (by omega)]; exact hw
          · show (if zlt (μ0 20 0) L (zsb (μ0 20 0) L e) = 44 then _ else _) = _
            rw [if_pos h44, if_neg (by omega)]; exact hw
        · rw [zGs_T g3] at h44 e4
          have g4 := zGs_same g3 s3 e4 hsb.2
          refine ⟨fun z => absurd rfl z, fun _ => g_expect d _ L 59 (by decide) hL g4 _ (fun e' μ4 hp g5 s4 => ?_) (fun f b μ4 hp hb => ?_)⟩
          · have hp2 := zPun_r (by decide) hp
            rw [zsb_id he] at hp2
            exact fin (n + 1) e' μ4 rfl (zsame_t s3 s4) g5 hp2.2.2 hp2.1
          · have hp2 := zPun_f hp
            rw [zsb_id he] at hp2
            exact bad _ f b μ4 (by omega) hp2.1 hp2.2.1 hp2.2.2 (Or.inl h44) hb
    · rw [zrw_l hz] at h2
      have hK2 : ∀ μ', zBd μ0 L f b μ' → K μ' := fun μ' q => h2 f b μ' rfl q
      refine ⟨fun q => b_expect d 59 (by decide) hL hb2 _ (fun μ3 h3 => b_addRoom (d + 1) _ ?_ h3 _ (fun μ4 h4 => hK2 μ4 h4)), fun q => b_accept d 44 (by decide) hL hb2 _ (fun x μ3 hx h3 => ⟨fun _ => ?_, fun _ => b_expect d 59 (by decide) hL h3 _ (fun μ4 h4 => b_addRoom (d + 1) _ ?_ h4 _ (fun μ5 h5 => hK2 μ5 h5))⟩)⟩
      · rw [z_fix (by omega) (by omega)]; omega
      · rw [z_fix (by omega) (by omega)] at q ⊢
        exact b_room33 d hL K hK2 (10 - n) (n + 1) (by omega) μ3 h3
      · rw [z_fix (by omega) (by omega)]; omega
theorem c_room (d a L : Nat) (hL : L ≤ 240) (ha : a < L) {μ0 μ : zM} {R : Nat → Int} (h : zGst μ0 L a μ) (hD : zDr μ R) (hU : zDu μ R) (hI : zRI R) (ht : μ 3 1 0 = 1) (K : zM → Prop) (h1 : ∀ e R' μ', zcR (μ0 20 0) L a R = .inr (e, R') → zGst μ0 L e μ' → zDr μ' R' → zDu μ' R' → μ' 3 1 0 = 1 → K μ') (h2 : ∀ f b μ', zcR (μ0 20 0) L a R = .inl (f, b) → zBd μ0 L f b μ' → K μ') : zC0 (d + 4) m_X7_readRoom [zR 2 0] μ K := by
  obtain ⟨rn, hrn⟩ := Int.eq_ofNat_of_zero_le hI.2.1.1
  have hr6 := hI.2.1.2
  have eR : μ 3 1 2 = (rn : Int) := by rw [hD.1.2.1]; exact hrn
  unfold zcR at h1 h2
  rw [hrn, Int.toNat_natCast] at h1 h2
  refine k_X7_readRoom (d + 3) μ K ⟨fun q => ?_, fun q => g_fail _ a L 3 (by decide) _ a h.2.1 h _ (fun μ1 hb e1 => ?_)⟩
  · rw [h.2.1, z_fix (show (-2147483648 : Int) ≤ (a : Int) + 1 by omega) (by omega), show (a : Int) + 1 = ((a + 1 : Nat) : Int) by omega]
    have q6 : ¬ (rn : Int) = 6 := by omega
    rw [if_neg q6] at h1 h2
    have s0 : zsame μ (zset μ 2 0 3 ((a + 1 : Nat) : Int)) := zsame_3 (zsame_r μ) _
    refine c_room33 (d + 1) L rn hL (by omega) K 12 0 rfl (by omega) (a + 1) R _ (zGs_at h (a + 1) (by omega)) (zDr_same s0 hD) (zDu_same s0 hU) hrn (by rw [zo (by omega)]; exact ht) (fun c e R' μ' hw g5 d5 u5 t5 => h1 e _ μ' ?_ g5 d5 u5 t5) (fun f b μ' hw hb => h2 f b μ' ?_ hb)
    · rw [hw]; rfl
    · rw [hw]; rfl
  · rw [e1, z_fix (show (-2147483648 : Int) ≤ (a : Int) + 1 by omega) (by omega), show (a : Int) + 1 = ((a + 1 : Nat) : Int) by omega]
    have q6 : (rn : Int) = 6 := by omega
    rw [if_pos q6] at h2
    exact b_room33 (d + 1) hL K (fun μ' q => h2 3 a μ' rfl q) 11 0 (by omega) _ (zBd_at hb (a + 1) (by omega))
