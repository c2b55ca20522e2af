/-! THE TEXT, read, without memory: R holds what the text tells, as the model lays it -/
def zu (R : Nat → Int) (k : Nat) (v : Int) : Nat → Int := fun x => if x = k then v else R x
theorem zu_i (R : Nat → Int) (k : Nat) (v : Int) : zu R k v k = v := by unfold zu; rw [if_pos rfl]
theorem zu_o {R : Nat → Int} {k x : Nat} {v : Int} (h : x ≠ k) : zu R k v x = R x := by unfold zu; rw [if_neg h]
def zcD (T : Nat → Int) (L a : Nat) (R : Nat → Int) : zRs (Nat × (Nat → Int)) := zbnd (zNum T L a 99) fun q => zbnd (zPun T L q.2 59) fun e => .inr (e, zu R 0 q.1)
def zrw (T : Nat → Int) (L base fewest most : Nat) : Nat → Nat → Nat → (Nat → Int) → zRs (Nat × Nat × (Nat → Int))
  | 0, _, _, _ => .inl (0, 0)
  | m + 1, n, a, R => zbnd (zNum T L a 9) fun q => if zlt T L (zsb T L q.2) = 44 then (if n + 1 = most then .inl (1, zsb T L q.2) else zrw T L base fewest most m (n + 1) (zsb T L q.2 + 1) (zu R (base + n) q.1)) else if zlt T L (zsb T L q.2) = 59 ∧ fewest ≤ n + 1 then .inr (n + 1, zsb T L q.2 + 1, zu R (base + n) q.1) else .inl (1, zsb T L q.2)
theorem zrw_s (T : Nat → Int) (L base fewest most m n a : Nat) (R : Nat → Int) : zrw T L base fewest most (m + 1) n a R = zbnd (zNum T L a 9) fun q => if zlt T L (zsb T L q.2) = 44 then (if n + 1 = most then .inl (1, zsb T L q.2) else zrw T L base fewest most m (n + 1) (zsb T L q.2 + 1) (zu R (base + n) q.1)) else if zlt T L (zsb T L q.2) = 59 ∧ fewest ≤ n + 1 then .inr (n + 1, zsb T L q.2 + 1, zu R (base + n) q.1) else .inl (1, zsb T L q.2) := rfl
def zcR (T : Nat → Int) (L a : Nat) (R : Nat → Int) : zRs (Nat × (Nat → Int)) := if R 1 = 6 then .inl (3, a) else zbnd (zrw T L (16 + 12 * (R 1).toNat) 1 12 12 0 (a + 1) R) fun q => .inr (q.2.1, zu (zu q.2.2 (4 + (R 1).toNat) (q.1 : Int)) 1 (R 1 + 1))
def zcU (T : Nat → Int) (L a : Nat) (R : Nat → Int) : zRs (Nat × (Nat → Int)) := zbnd (zNum T L (a + 1) (R 1 - 1)) fun q => if R (10 + q.1.toNat) = 1 then .inl (4, zsb T L (a + 1)) else zbnd (zrw T L (88 + 12 * q.1.toNat) (R (4 + q.1.toNat)).toNat (R (4 + q.1.toNat)).toNat (R (4 + q.1.toNat)).toNat 0 q.2 (zu R (10 + q.1.toNat) 1)) fun q' => .inr (q'.2.1, q'.2.2)
def zcP (T : Nat → Int) (L a : Nat) (R : Nat → Int) : zRs (Nat × (Nat → Int)) := if R 2 = 5 then .inl (3, a) else zbnd (zNum T L (a + 1) (R 1 - 1)) fun q1 => zbnd (zNum T L q1.2 (R (4 + q1.1.toNat) - 1)) fun q2 => zbnd (zNum T L q2.2 9) fun q3 => zbnd (zPun T L q3.2 59) fun e => .inr (e, zu (zu (zu (zu R (160 + (R 2).toNat) q1.1) (165 + (R 2).toNat) q2.1) 2 (R 2 + 1)) (170 + (R 2).toNat) q3.1)
def zcW (T : Nat → Int) (L a : Nat) (R : Nat → Int) : zRs (Nat × (Nat → Int)) := if R 3 = 6 then .inl (3, a) else zbnd (zNum T L (a + 1) (R 1 - 1)) fun q1 => zbnd (zNum T L q1.2 (R (4 + q1.1.toNat) - 1)) fun q2 => zbnd (zNum T L q2.2 (R 1 - 1)) fun q3 => if q3.1 = q1.1 then .inl (4, zsb T L q2.2) else zbnd (zNum T L q3.2 (R (4 + q3.1.toNat) - 1)) fun q4 => zbnd (zPun T L q4.2 59) fun e => .inr (e, zu (zu (zu (zu (zu R (175 + (R 3).toNat) q1.1) (181 + (R 3).toNat) q2.1) (187 + (R 3).toNat) q3.1) 3 (R 3 + 1)) (193 + (R 3).toNat) q4.1)
def zclau (T : Nat → Int) (L : Nat) (first : Bool) (a : Nat) (R : Nat → Int) : zRs (Nat × (Nat → Int)) := if zlt T L a = 100 then (if first = true then zcD T L (a + 1) R else .inl (3, a)) else if first = true then .inl (1, a) else if zlt T L a = 114 then zcR T L a R else if zlt T L a = 117 then zcU T L a R else if zlt T L a = 112 then zcP T L a R else if zlt T L a = 119 then zcW T L a R else .inl (1, a)
def zalls (T : Nat → Int) (L : Nat) : Nat → Bool → Nat → (Nat → Int) → zRs (Bool × (Nat → Int))
  | 0, _, _, _ => .inl (0, 0)
  | m + 1, first, a, R => if a < L then zbnd (zclau T L first a R) fun q => zalls T L m false (zsb T L q.1) q.2 else .inr (first, R)
theorem zall_s (T : Nat → Int) (L m : Nat) (first : Bool) (a : Nat) (R : Nat → Int) : zalls T L (m + 1) first a R = if a < L then zbnd (zclau T L first a R) fun q => zalls T L m false (zsb T L q.1) q.2 else .inr (first, R) := rfl
/-- what is told so far keeps its bounds -/
def zRI (R : Nat → Int) : Prop := (0 ≤ R 0 ∧ R 0 ≤ 99) ∧ (0 ≤ R 1 ∧ R 1 ≤ 6) ∧ (0 ≤ R 2 ∧ R 2 ≤ 5) ∧ (0 ≤ R 3 ∧ R 3 ≤ 6) ∧ (∀ r : Nat, r < 6 → (r : Int) < R 1 → 1 ≤ R (4 + r) ∧ R (4 + r) ≤ 12) ∧ (∀ k, 16 ≤ k → k < 160 → 0 ≤ R k ∧ R k ≤ 9) ∧ (∀ p : Nat, p < 5 → (p : Int) < R 2 → (0 ≤ R (160 + p) ∧ R (160 + p) < R 1) ∧ (0 ≤ R (165 + p) ∧ R (165 + p) < R (4 + (R (160 + p)).toNat)) ∧ (0 ≤ R (170 + p) ∧ R (170 + p) ≤ 9)) ∧ (∀ r : Nat, r < 6 → R (10 + r) = 0 ∨ R (10 + r) = 1)
theorem zbnd_r {α β : Type} {x : zRs α} {f : α → zRs β} {y : β} (h : zbnd x f = .inr y) : ∃ u, x = .inr u ∧ f u = .inr y := by
  cases x with
  | inl e => cases h
  | inr u => exact ⟨u, rfl, h⟩
theorem zbnd_l {α β : Type} {x : zRs α} {f : α → zRs β} {e : Nat × Nat} (h : x = .inl e) : zbnd x f = .inl e := by rw [h]; rfl
theorem zbnd_i {α β : Type} {x : zRs α} {f : α → zRs β} {u : α} (h : x = .inr u) : zbnd x f = f u := by rw [h]; rfl
theorem zPun_e {T : Nat → Int} {L a : Nat} {sg : Int} {b : Nat} (ha : a ≤ L) (h : zPun T L a sg = .inr b) (hs : sg ≠ -1) : a < b ∧ b ≤ L := by
  have h1 := zPun_r hs h
  have h2 := zsb_rg T ha
  omega
theorem zRI_D {T : Nat → Int} {L a : Nat} {R : Nat → Int} (ha : a ≤ L) (hR : zRI R) {e : Nat} {R' : Nat → Int} (h : zcD T L a R = .inr (e, R')) : zRI R' ∧ a < e ∧ e ≤ L := by
  obtain ⟨⟨v, x⟩, h1, h⟩ := zbnd_r h
  obtain ⟨y, h2, h⟩ := zbnd_r h
  cases h
  have v1 := zNum_v ha h1
  have v2 := zPun_e v1.2.2.2.2 h2 (by decide)
  have v3 := v1.2.2.2.1
  have v4 : x < e := v2.1
  refine ⟨?_, by omega, v2.2⟩
  obtain ⟨r1, r2, r3, r4, r5, r6, r7, r8⟩ := hR
  refine ⟨by rw [zu_i]; omega, by rw [zu_o (by omega)]; exact r2, by rw [zu_o (by omega)]; exact r3, by rw [zu_o (by omega)]; exact r4, fun r q1 q2 => ?_, fun k q1 q2 => by rw [zu_o (by omega)]; exact r6 k q1 q2, fun p q1 q2 => ?_, fun r q1 => by rw [zu_o (by omega)]; exact r8 r q1⟩
  · rw [zu_o (by omega)] at q2 ⊢; exact r5 r q1 q2
  · rw [zu_o (by omega)] at q2
    have q3 := r7 p q1 q2
    rw [zu_o (by omega), zu_o (by omega), zu_o (by omega), zu_o (by omega), zu_o (by omega)]
    exact q3
/-- a row: what it writes -/
theorem zrw_iv {T : Nat → Int} {L base fewest most : Nat} : ∀ (m n a : Nat) (R : Nat → Int), a ≤ L → m = most - n → n < most → ∀ (c e : Nat) (R' : Nat → Int), zrw T L base fewest most m n a R = .inr (c, e, R') → (n < c ∧ c ≤ most ∧ fewest ≤ c) ∧ (a < e ∧ e ≤ L) ∧ (∀ k, (k < base + n ∨ base + c ≤ k) → R' k = R k) ∧ (∀ k, base + n ≤ k → k < base + c → 0 ≤ R' k ∧ R' k ≤ 9)
  | 0, n, a, R, ha, hm, hn => by omega
  | m + 1, n, a, R, ha, hm, hn => by
    intro c e R' h
    rw [zrw_s] at h
    obtain ⟨⟨v, x⟩, h1, h⟩ := zbnd_r h
    have v1 := zNum_v ha h1
    have v5 := zsb_rg T v1.2.2.2.2
    dsimp only at h
    by_cases q : zlt T L (zsb T L x) = 44
    · rw [if_pos q] at h
      have v6 := zlt_lt q (by decide)
      by_cases q2 : n + 1 = most
      · rw [if_pos q2] at h; cases h
      · rw [if_neg q2] at h
        obtain ⟨i1, i2, i3, i4⟩ := zrw_iv (T := T) (L := L) (base := base) (fewest := fewest) (most := most) m (n + 1) (zsb T L x + 1) (zu R (base + n) v) (by omega) (by omega) (by omega) _ _ _ h
        refine ⟨by omega, by omega, fun k hk => ?_, fun k k1 k2 => ?_⟩
        · rw [i3 k (by omega), zu_o (by omega)]
        · by_cases q3 : k = base + n
          · subst q3
            rw [i3 _ (by omega), zu_i]; omega
          · exact i4 k (by omega) k2
    · rw [if_neg q] at h
      by_cases q2 : zlt T L (zsb T L x) = 59 ∧ fewest ≤ n + 1
      · rw [if_pos q2] at h
        cases h
        have v6 := zlt_lt q2.1 (by decide)
        refine ⟨by omega, by omega, fun k hk => zu_o (by omega), fun k k1 k2 => ?_⟩
        rw [show k = base + n by omega, zu_i]; omega
      · rw [if_neg q2] at h; cases h
theorem zRI_R {T : Nat → Int} {L a : Nat} {R : Nat → Int} (ha : a < L) (hR : zRI R) {e : Nat} {R' : Nat → Int} (h : zcR T L a R = .inr (e, R')) : zRI R' ∧ a < e ∧ e ≤ L := by
  obtain ⟨r1, r2, r3, r4, r5, r6, r7, r8⟩ := hR
  obtain ⟨n, hn⟩ := Int.eq_ofNat_of_zero_le r2.1
  unfold zcR at h
  rw [hn, Int.toNat_natCast] at h
  by_cases q6 : (n : Int) = 6
  · rw [if_pos q6] at h; cases h
  · rw [if_neg q6] at h
    obtain ⟨⟨c, x, R1⟩, h1, h⟩ := zbnd_r h
    cases h
    obtain ⟨⟨c1, c2, -⟩, ⟨x1, x2⟩, i3, i4⟩ := zrw_iv (most := 12) 12 0 (a + 1) R (by omega) rfl (by omega) _ _ _ h1
    rw [Nat.add_zero] at i3 i4
    have e1 : ∀ k, k < 16 ∨ 160 ≤ k → R1 k = R k := fun k hk => i3 k (by omega)
    refine ⟨?_, by show a < x; omega, x2⟩
    show zRI (zu (zu R1 (4 + n) (c : Int)) 1 ((n : Int) + 1))
    refine ⟨by rw [zu_o (by omega), zu_o (by omega), e1 _ (by omega)]; exact r1, by rw [zu_i]; omega, by rw [zu_o (by omega), zu_o (by omega), e1 _ (by omega)]; exact r3, by rw [zu_o (by omega), zu_o (by omega), e1 _ (by omega)]; exact r4, fun r q1 q2 => ?_, fun k q1 q2 => ?_, fun p q1 q2 => ?_, fun r q1 => by rw [zu_o (by omega), zu_o (by omega), e1 _ (by omega)]; exact r8 r q1⟩
    · rw [zu_i] at q2
      rw [zu_o (by omega)]
      by_cases q : r = n
      · subst q; rw [zu_i]; omega
      · rw [zu_o (by omega), e1 _ (by omega)]
        exact r5 r q1 (by omega)
    · rw [zu_o (by omega), zu_o (by omega)]
      by_cases q : 16 + 12 * n ≤ k ∧ k < 16 + 12 * n + c
      · exact i4 k q.1 q.2
      · rw [i3 k (by omega)]; exact r6 k q1 q2
    · rw [zu_o (by omega), zu_o (by omega), e1 _ (by omega)] at q2
      obtain ⟨g1, g2, g3⟩ := r7 p q1 q2
      rw [hn] at g1
      rw [zu_i, zu_o (x := 160 + p) (by omega), zu_o (x := 160 + p) (by omega), e1 (160 + p) (by omega), zu_o (x := 165 + p) (by omega), zu_o (x := 165 + p) (by omega), e1 (165 + p) (by omega), zu_o (x := 170 + p) (by omega), zu_o (x := 170 + p) (by omega), e1 (170 + p) (by omega), zu_o (by omega), zu_o (by omega), e1 _ (by omega)]
      exact ⟨by omega, g2, g3⟩
theorem zRI_U {T : Nat → Int} {L a : Nat} {R : Nat → Int} (ha : a < L) (hR : zRI R) {e : Nat} {R' : Nat → Int} (h : zcU T L a R = .inr (e, R')) : zRI R' ∧ a < e ∧ e ≤ L := by
  obtain ⟨r1, r2, r3, r4, r5, r6, r7, r8⟩ := hR
  obtain ⟨⟨v, x⟩, h1, h⟩ := zbnd_r h
  have v1 := zNum_v (show a + 1 ≤ L by omega) h1
  obtain ⟨r, rfl⟩ := Int.eq_ofNat_of_zero_le v1.1
  dsimp only at h
  rw [Int.toNat_natCast] at h
  by_cases q1 : R (10 + r) = 1
  · rw [if_pos q1] at h; cases h
  · rw [if_neg q1] at h
    obtain ⟨⟨c, y, R1⟩, h2, h⟩ := zbnd_r h
    cases h
    have b1 := r5 r (by omega) (by omega)
    obtain ⟨⟨c1, c2, -⟩, ⟨x1, x2⟩, i3, i4⟩ := zrw_iv (most := (R (4 + r)).toNat) _ 0 x (zu R (10 + r) 1) v1.2.2.2.2 rfl (by omega) _ _ _ h2
    rw [Nat.add_zero] at i3 i4
    have e1 : ∀ k, (k < 88 ∨ 160 ≤ k) → k ≠ 10 + r → R1 k = R k := fun k hk hk2 => by rw [i3 k (by omega), zu_o hk2]
    show zRI R1 ∧ a < y ∧ y ≤ L
    refine ⟨⟨by rw [e1 _ (by omega) (by omega)]; exact r1, by rw [e1 _ (by omega) (by omega)]; exact r2, by rw [e1 _ (by omega) (by omega)]; exact r3, by rw [e1 _ (by omega) (by omega)]; exact r4, fun s q1 q2 => ?_, fun k q1 q2 => ?_, fun p q1 q2 => ?_, fun s q1 => ?_⟩, by show a < y; have := v1.2.2.2; omega, x2⟩
    · rw [e1 _ (by omega) (by omega)] at q2 ⊢
      exact r5 s q1 q2
    · by_cases q : 88 + 12 * r ≤ k ∧ k < 88 + 12 * r + c
      · exact i4 k q.1 q.2
      · rw [i3 k (by omega), zu_o (by omega)]; exact r6 k q1 q2
    · rw [e1 2 (by omega) (by omega)] at q2
      obtain ⟨g1, g2, g3⟩ := r7 p q1 q2
      rw [e1 1 (by omega) (by omega), e1 (160 + p) (by omega) (by omega), e1 (165 + p) (by omega) (by omega), e1 (170 + p) (by omega) (by omega), e1 _ (by omega) (by omega)]
      exact ⟨g1, g2, g3⟩
    · by_cases q : s = r
      · subst q
        rw [i3 _ (by omega), zu_i]; exact Or.inr rfl
      · rw [e1 _ (by omega) (by omega)]; exact r8 s q1
theorem zRI_P {T : Nat → Int} {L a : Nat} {R : Nat → Int} (ha : a < L) (hR : zRI R) {e : Nat} {R' : Nat → Int} (h : zcP T L a R = .inr (e, R')) : zRI R' ∧ a < e ∧ e ≤ L := by
  obtain ⟨r1, r2, r3, r4, r5, r6, r7, r8⟩ := hR
  obtain ⟨n, hn⟩ := Int.eq_ofNat_of_zero_le r3.1
  unfold zcP at h
  rw [hn, Int.toNat_natCast] at h
  by_cases q6 : (n : Int) = 5
  · rw [if_pos q6] at h; cases h
  · rw [if_neg q6] at h
    obtain ⟨⟨u1, x1⟩, h1, h⟩ := zbnd_r h
    obtain ⟨⟨u2, x2⟩, h2, h⟩ := zbnd_r h
    obtain ⟨⟨u3, x3⟩, h3, h⟩ := zbnd_r h
    obtain ⟨x4, h4, h⟩ := zbnd_r h
    dsimp only at h1 h2 h3 h4 h
    have v1 := zNum_v (show a + 1 ≤ L by omega) h1
    have v2 := zNum_v v1.2.2.2.2 h2
    have v3 := zNum_v v2.2.2.2.2 h3
    have v4 := zPun_e v3.2.2.2.2 h4 (by decide)
    cases h
    refine ⟨?_, by omega, v4.2⟩
    show zRI (zu (zu (zu (zu R (160 + n) u1) (165 + n) u2) 2 ((n : Int) + 1)) (170 + n) u3)
    have g : ∀ k, k ≠ 2 → k ≠ 160 + n → k ≠ 165 + n → k ≠ 170 + n → zu (zu (zu (zu R (160 + n) u1) (165 + n) u2) 2 ((n : Int) + 1)) (170 + n) u3 k = R k := fun k q1 q2 q3 q4 => by
      rw [zu_o q4, zu_o q1, zu_o q3, zu_o q2]
    have g2 : zu (zu (zu (zu R (160 + n) u1) (165 + n) u2) 2 ((n : Int) + 1)) (170 + n) u3 2 = (n : Int) + 1 := by rw [zu_o (by omega), zu_i]
    refine ⟨by rw [g _ (by omega) (by omega) (by omega) (by omega)]; exact r1, by rw [g _ (by omega) (by omega) (by omega) (by omega)]; exact r2, by rw [g2]; omega, by rw [g _ (by omega) (by omega) (by omega) (by omega)]; exact r4, fun s q1 q2 => ?_, fun k q1 q2 => by rw [g _ (by omega) (by omega) (by omega) (by omega)]; exact r6 k q1 q2, fun p q1 q2 => ?_, fun s q1 => by rw [g _ (by omega) (by omega) (by omega) (by omega)]; exact r8 s q1⟩
    · rw [g 1 (by omega) (by omega) (by omega) (by omega)] at q2
      rw [g _ (by omega) (by omega) (by omega) (by omega)]
      exact r5 s q1 q2
    · rw [g2] at q2
      rw [g 1 (by omega) (by omega) (by omega) (by omega)]
      by_cases q : p = n
      · subst q
        have w1 : zu (zu (zu (zu R (160 + p) u1) (165 + p) u2) 2 ((p : Int) + 1)) (170 + p) u3 (160 + p) = u1 := by rw [zu_o (by omega), zu_o (by omega), zu_o (by omega), zu_i]
        have w2 : zu (zu (zu (zu R (160 + p) u1) (165 + p) u2) 2 ((p : Int) + 1)) (170 + p) u3 (165 + p) = u2 := by rw [zu_o (by omega), zu_o (by omega), zu_i]
        rw [w1, w2, zu_i, g _ (by omega) (by omega) (by omega) (by omega)]
        omega
      · have g3 := r7 p q1 (by omega)
        rw [g (160 + p) (by omega) (by omega) (by omega) (by omega), g (165 + p) (by omega) (by omega) (by omega) (by omega), g (170 + p) (by omega) (by omega) (by omega) (by omega), g _ (by omega) (by omega) (by omega) (by omega)]
        exact g3
theorem zRI_W {T : Nat → Int} {L a : Nat} {R : Nat → Int} (ha : a < L) (hR : zRI R) {e : Nat} {R' : Nat → Int} (h : zcW T L a R = .inr (e, R')) : zRI R' ∧ a < e ∧ e ≤ L := by
  obtain ⟨r1, r2, r3, r4, r5, r6, r7, r8⟩ := hR
  obtain ⟨n, hn⟩ := Int.eq_ofNat_of_zero_le r4.1
  unfold zcW at h
  rw [hn, Int.toNat_natCast] at h
  by_cases q6 : (n : Int) = 6
  · rw [if_pos q6] at h; cases h
  · rw [if_neg q6] at h
    obtain ⟨⟨u1, x1⟩, h1, h⟩ := zbnd_r h
    obtain ⟨⟨u2, x2⟩, h2, h⟩ := zbnd_r h
    obtain ⟨⟨u3, x3⟩, h3, h⟩ := zbnd_r h
    dsimp only at h1 h2 h3 h
    by_cases q7 : u3 = u1
    · rw [if_pos q7] at h; cases h
    · rw [if_neg q7] at h
      obtain ⟨⟨u4, x4⟩, h4, h⟩ := zbnd_r h
      obtain ⟨x5, h5, h⟩ := zbnd_r h
      dsimp only at h4 h5 h
      have v1 := zNum_v (show a + 1 ≤ L by omega) h1
      have v2 := zNum_v v1.2.2.2.2 h2
      have v3 := zNum_v v2.2.2.2.2 h3
      have v4 := zNum_v v3.2.2.2.2 h4
      have v5 := zPun_e v4.2.2.2.2 h5 (by decide)
      cases h
      refine ⟨?_, by omega, v5.2⟩
      show zRI (zu (zu (zu (zu (zu R (175 + n) u1) (181 + n) u2) (187 + n) u3) 3 ((n : Int) + 1)) (193 + n) u4)
      have g : ∀ k, k ≠ 3 → k < 175 → zu (zu (zu (zu (zu R (175 + n) u1) (181 + n) u2) (187 + n) u3) 3 ((n : Int) + 1)) (193 + n) u4 k = R k := fun k q1 q2 => by
        rw [zu_o (by omega), zu_o (by omega), zu_o (by omega), zu_o (by omega), zu_o (by omega)]
      have g2 : zu (zu (zu (zu (zu R (175 + n) u1) (181 + n) u2) (187 + n) u3) 3 ((n : Int) + 1)) (193 + n) u4 3 = (n : Int) + 1 := by rw [zu_o (by omega), zu_i]
      refine ⟨by rw [g _ (by omega) (by omega)]; exact r1, by rw [g _ (by omega) (by omega)]; exact r2, by rw [g _ (by omega) (by omega)]; exact r3, by rw [g2]; omega, fun s q1 q2 => ?_, fun k q1 q2 => by rw [g _ (by omega) (by omega)]; exact r6 k q1 q2, fun p q1 q2 => ?_, fun s q1 => by rw [g _ (by omega) (by omega)]; exact r8 s q1⟩
      · rw [g 1 (by omega) (by omega)] at q2
        rw [g _ (by omega) (by omega)]
        exact r5 s q1 q2
      · rw [g 2 (by omega) (by omega)] at q2
        have g3 := r7 p q1 q2
        rw [g 1 (by omega) (by omega), g (160 + p) (by omega) (by omega), g (165 + p) (by omega) (by omega), g (170 + p) (by omega) (by omega), g _ (by omega) (by omega)]
        exact g3
theorem zRI_c {T : Nat → Int} {L a : Nat} {first : Bool} {R : Nat → Int} (ha : a < L) (hR : zRI R) {e : Nat} {R' : Nat → Int} (h : zclau T L first a R = .inr (e, R')) : zRI R' ∧ a < e ∧ e ≤ L := by
  unfold zclau at h
  split at h
  · split at h
    · have := zRI_D (show a + 1 ≤ L by omega) hR h
      exact ⟨this.1, by omega, this.2.2⟩
    · cases h
  · split at h
    · cases h
    · split at h
      · exact zRI_R ha hR h
      · split at h
        · exact zRI_U ha hR h
        · split at h
          · exact zRI_P ha hR h
          · split at h
            · exact zRI_W ha hR h
            · cases h
