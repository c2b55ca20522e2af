/-! HOUSE: the call -/
theorem zall_t {T : Nat → Int} {L : Nat} : ∀ (m : Nat) (first : Bool) (a : Nat) (R R' : Nat → Int), zalls T L m first a R = .inr (true, R') → first = true ∧ R' = R
  | 0, _, _, _, _, h => by cases h
  | m + 1, first, a, R, R', h => by
    rw [zall_s] at h
    by_cases q : a < L
    · rw [if_pos q] at h
      obtain ⟨u, _, h2⟩ := zbnd_r h
      have := (zall_t m false _ _ _ h2).1
      cases this
    · rw [if_neg q] at h
      cases h
      exact ⟨rfl, rfl⟩
theorem zRel_text {μ μ' : zM} (hR : zRel μ) (f : ∀ t i k, ¬ zsc t i k → t ≠ 2 → ¬ (t = 9 ∧ (k = 10 ∨ k = 11)) → μ' t i k = μ t i k) (hT : zTx μ') : zRel μ' := by
  obtain ⟨n, B, nP, nW, h1, ⟨h2, h3⟩, h4, h5, h6, h7, h8, h9⟩ := hR
  have hp5 := h1.2.2.2.2.2.2.2.1.2.2.1
  unfold zsc at f
  refine ⟨n, B, nP, nW, zHs_cg ?_ ?_ h1, ⟨zLR_cg hp5 ?_ ?_ h2, ?_⟩, hT, zPs_cg hp5 ?_ ?_ ?_ ?_ h5, zIm_cg hp5 ?_ ?_ ?_ ?_ ?_ h6, zCh_cg ?_ ?_ h7, zSg_cg ?_ ?_ ?_ h8, zBk_cg ?_ ?_ ?_ h9⟩
  case refine_5 => rw [f _ _ _ (by omega) (by omega) (by omega)]; exact h3
  all_goals intros; refine f _ _ _ ?_ ?_ ?_ <;> omega
def zS0 (R : Nat → Int) : zST := fun a k => match a with
  | 4 => R (160 + k)
  | 5 => R (165 + k)
  | 6 => R (170 + k)
  | _ => 0
theorem zRel_new {ν : zM} {R : Nat → Int} {v : Int} {X : Nat} (hI : zRI R) (hv : v = 0 ∨ v = 1) (hv0 : v = 0 → R = fun _ => 0)
    (k30 : ν 3 0 0 = v) (k31 : ν 3 0 1 = R 0) (k32 : ν 3 0 2 = R 1) (k33 : ν 3 0 3 = R 2) (k34 : ν 3 0 4 = R 3) (k35 : zset12 (ν 3 0 5) ∧ ∀ r, r < 6 → R (10 + r) = if zbit (ν 3 0 5) r = true then 1 else 0)
    (k10 : ∀ r : Nat, r < 6 → (r : Int) < R 1 → ν 10 0 r = R (4 + r)) (k11 : ∀ k, k < 72 → ν 11 0 k = R (16 + k) ∧ ν 12 0 k = R (88 + k))
    (k13 : ∀ p w : Nat, p < 5 → (p : Int) < R 2 → w < 3 → ν 13 0 (3 * p + w) = R (160 + 5 * w + p)) (k14 : ∀ w c : Nat, w < 6 → (w : Int) < R 3 → c < 4 → ν 14 0 (4 * w + c) = R (175 + 6 * c + w))
    (m33 : ∀ k, k < 199 → ν 33 0 k = R k) (m199 : ν 33 0 199 = v)
    (l1 : ν 4 0 1 = 0) (l2 : ν 4 0 2 = 0) (l3 : ν 4 0 3 = 0) (l15 : ∀ k, k < 6 → ν 15 0 k = 0) (l16 : ∀ p : Nat, p < 5 → (p : Int) < R 2 → ν 16 0 p = R (160 + p) ∧ ν 17 0 p = R (165 + p) ∧ ν 18 0 p = R (170 + p))
    (m34 : ∀ k, k < 44 → ν 34 0 k = if 6 ≤ k ∧ k < 11 then R (160 + (k - 6)) else if 11 ≤ k ∧ k < 16 then R (165 + (k - 11)) else if 16 ≤ k ∧ k < 21 then R (170 + (k - 16)) else 0)
    (t2 : ν 2 0 2 = 0) (t10 : ν 9 0 10 = 0) (t11 : ν 9 0 11 = ν 2 0 6) (p1 : ν 5 0 1 = 0) (p2 : ν 5 0 2 = (X : Int)) (p3 : X < 30) (p9 : ν 9 0 5 = 0)
    (i6 : ν 6 0 2 = 0) (i0 : ν 37 0 0 = 0) (i1 : ν 37 0 1 = 0) (c8 : ν 9 0 8 = ν 1 0 8) (c9 : 0 ≤ ν 1 0 8 ∧ ν 1 0 8 < 2147483648)
    (s7 : ν 7 0 7 = 0) (s13 : ν 9 0 13 = 0) (s8 : ν 7 0 8 = 0) (s15 : ν 9 0 15 = 0) : zRel ν := by
  obtain ⟨r0, r1, r2, r3, r4, r6, r7, r8⟩ := hI
  obtain ⟨n, hn⟩ := Int.eq_ofNat_of_zero_le r1.1
  obtain ⟨nP, hP⟩ := Int.eq_ofNat_of_zero_le r2.1
  obtain ⟨nW, hW⟩ := Int.eq_ofNat_of_zero_le r3.1
  have hB : ∀ r, r < n → R (4 + r) = (((R (4 + r)).toNat : Nat) : Int) ∧ 1 ≤ (R (4 + r)).toNat ∧ (R (4 + r)).toNat ≤ 12 := fun r hr => by
    have := r4 r (by omega) (by omega)
    omega
  have hcell : ∀ r b, r < n → b < (R (4 + r)).toNat → 12 * r + b < 72 := fun r b h1 h2 => by
    have := hB r h1
    omega
  have hc : zHc ν n (fun r => (R (4 + r)).toNat) := by
    refine ⟨by rw [k32]; exact hn, by omega, fun r hr => ⟨by rw [k10 r (by omega) (by omega)]; exact (hB r hr).1, (hB r hr).2⟩, fun r b hr hb => ?_⟩
    have h1 := hcell r b hr hb
    rw [(k11 _ h1).1, (k11 _ h1).2]
    exact ⟨r6 _ (by omega) (by omega), r6 _ (by omega) (by omega)⟩
  have hm : zHm ν n (fun r => (R (4 + r)).toNat) := by
    refine ⟨by rw [m33 1 (by omega)]; exact hn, by omega, fun r hr => ⟨by rw [m33 _ (by omega)]; exact (hB r hr).1, (hB r hr).2⟩, fun r b hr hb => ?_⟩
    have h1 := hcell r b hr hb
    rw [m33 _ (by omega), m33 _ (by omega)]
    exact ⟨r6 _ (by omega) (by omega), r6 _ (by omega) (by omega)⟩
  have hpp : ∀ p, p < nP → ∃ r b g : Nat, R (160 + p) = (r : Int) ∧ R (165 + p) = (b : Int) ∧ R (170 + p) = (g : Int) ∧ r < n ∧ b < (R (4 + r)).toNat ∧ g < 10 := fun p hp => by
    have h := r7 p (by omega) (by omega)
    obtain ⟨r, hr⟩ := Int.eq_ofNat_of_zero_le h.1.1
    obtain ⟨b, hb⟩ := Int.eq_ofNat_of_zero_le h.2.1.1
    obtain ⟨g, hg⟩ := Int.eq_ofNat_of_zero_le h.2.2.1
    rw [hr, Int.toNat_natCast] at h
    have h4 := hB r (by omega)
    exact ⟨r, b, g, hr, hb, hg, by omega, by omega, by omega⟩
  have hHs : zHs ν n (fun r => (R (4 + r)).toNat) nP nW := by
    refine ⟨hc, hm, fun k hk => by rw [(k11 k hk).1, m33 _ (by omega)], fun k hk => by rw [(k11 k hk).2, m33 _ (by omega)], ⟨by rw [m199, k30], by rw [k30]; exact hv⟩, ⟨by rw [m33 0 (by omega), k31], by rw [k31]; exact r0.1, by rw [k31]; exact r0.2⟩, ⟨k35.1, fun r hr => by rw [m33 _ (by omega)]; exact k35.2 r (by omega)⟩, ⟨by rw [k33]; exact hP, by rw [m33 2 (by omega)]; exact hP, by omega, fun p w hp hw => by rw [m33 _ (by omega), k13 p w (by omega) (by omega) hw]⟩, fun p hp => ?_, ⟨by rw [k34]; exact hW, by rw [m33 3 (by omega)]; exact hW, by omega, fun w c hw hc2 => by rw [m33 _ (by omega), k14 w c (by omega) (by omega) hc2]⟩, fun h0 => ?_⟩
    · obtain ⟨r, b, g, h1, h2, h3, h4, h5, h6⟩ := hpp p hp
      have e0 := k13 p 0 (by omega) (by omega) (by omega)
      have e1 := k13 p 1 (by omega) (by omega) (by omega)
      have e2 := k13 p 2 (by omega) (by omega) (by omega)
      rw [show 3 * p + 0 = 3 * p by omega, show 160 + 5 * 0 + p = 160 + p by omega] at e0
      rw [show 160 + 5 * 1 + p = 165 + p by omega] at e1
      rw [show 160 + 5 * 2 + p = 170 + p by omega] at e2
      exact ⟨r, b, g, by rw [e0]; exact h1, by rw [e1]; exact h2, by rw [e2]; exact h3, h4, h5, h6⟩
    · rw [k30] at h0
      have z := hv0 h0
      rw [z] at hn hP hW
      have hn2 : (0 : Int) = (n : Int) := hn
      have hP2 : (0 : Int) = (nP : Int) := hP
      have hW2 : (0 : Int) = (nW : Int) := hW
      omega
  have zm : zmi 0 20 = 0 := rfl
  refine zRel_of (n := n) (B := fun r => (R (4 + r)).toNat) (nP := nP) (nW := nW) (S := zS0 R) (M := 0) (N := 0) (X := X) (PS := fun _ => (zS0 R, 0)) (c := ν 1 0 8) ⟨hHs, ⟨0, t2, t10, by omega, fun k hk => absurd hk (by omega), t11⟩, ⟨⟨by omega, by omega⟩, fun i hi => ?_⟩, ⟨0, s7, s13, by omega, fun k hk => absurd hk (by omega)⟩, ⟨0, s8, s15, by omega, fun k hk => absurd hk (by omega)⟩⟩ ⟨⟨l1, l2, l3, fun r hr => l15 r hr, fun p hp => l16 p (by omega) (by omega), fun k hk => absurd hk (by omega)⟩, ⟨p1, p2, p3, by omega, fun k hk => absurd hk (by omega)⟩, rfl⟩ ⟨⟨?_, ?_, ?_, fun r hr => ?_, fun p hp => ?_, fun k hk => absurd hk (by omega)⟩, ⟨p9, fun k hk => absurd hk (by omega)⟩, c8⟩ ⟨⟨⟨?_, ?_⟩, ⟨?_, ?_⟩, ?_, fun k hk => absurd hk (by omega), fun r hr => ⟨⟨?_, ?_⟩, fun _ => rfl⟩, fun p hp => hpp p hp⟩, fun k hk => absurd hk (by omega), ?_, c9⟩
  · have zb : ∀ i, i < 2 → zbit 0 i = false := by decide
    rw [i6, zb i hi, if_neg (by decide)]
    refine ⟨?_, fun z => by cases z⟩
    rcases (show i = 0 ∨ i = 1 by omega) with rfl | rfl
    · exact i0
    · exact i1
  · rw [m34 _ (by omega), if_neg (by omega), if_neg (by omega), if_neg (by omega)]; rfl
  · rw [m34 _ (by omega), if_neg (by omega), if_neg (by omega), if_neg (by omega)]; rfl
  · rw [m34 _ (by omega), if_neg (by omega), if_neg (by omega), if_neg (by omega), zm]; rfl
  · rw [m34 _ (by omega), if_neg (by omega), if_neg (by omega), if_neg (by omega)]; rfl
  · rw [m34 _ (by omega), m34 _ (by omega), m34 _ (by omega), if_pos (by omega), if_neg (show ¬ (6 ≤ 0 + 11 + p ∧ 0 + 11 + p < 11) by omega), if_pos (show 11 ≤ 0 + 11 + p ∧ 0 + 11 + p < 16 by omega), if_neg (show ¬ (6 ≤ 0 + 16 + p ∧ 0 + 16 + p < 11) by omega), if_neg (show ¬ (11 ≤ 0 + 16 + p ∧ 0 + 16 + p < 16) by omega), if_pos (show 16 ≤ 0 + 16 + p ∧ 0 + 16 + p < 21 by omega), show 0 + 6 + p - 6 = p by omega, show 0 + 11 + p - 11 = p by omega, show 0 + 16 + p - 16 = p by omega]
    exact ⟨rfl, rfl, rfl⟩
  · show (0 : Int) ≤ 0; omega
  · show (0 : Int) ≤ 100000; omega
  · show (0 : Int) ≤ 0; omega
  · show (0 : Int) ≤ 999999; omega
  · show ((0 : Nat) : Int) ≤ 150 * (0 : Int); omega
  · show (0 : Int) ≤ 0; omega
  · show (0 : Int) < 4096; omega
  · show (0 : Int) ≤ 90030; omega
theorem q_house (μ : zM) (hR : zRel μ) : zAsk m_X11_house m_X12_house [] μ := by
  have hR0 := hR
  obtain ⟨n, B, nP, nW, r1, ⟨r2, r3⟩, ⟨L, t1, t2, t3, t4, t5⟩, ⟨N, X, p1, p2, p3, p4, p5, p6⟩, r6, ⟨c1, c2⟩, r8, r9⟩ := hR
  have hT : ∀ k, k < L → 0 ≤ μ 20 0 k ∧ μ 20 0 k ≤ 255 := fun k hk => (t4 k hk).2
  refine k_X11_house 7 μ _ (c_read 1 L t3 μ t1 _ (fun fi R' μ1 hz g1 d1 u1 i1 tl => ⟨fun _ => ?_, fun z => absurd rfl z⟩) (fun f b μ1 hz hb => ⟨fun z => absurd z (by have := hb.2.2.1.2; omega), fun _ => ?_⟩))
  · obtain ⟨nP', hP'⟩ := Int.eq_ofNat_of_zero_le i1.2.2.1.1
    have h01 : (zset μ1 2 0 2 0) 3 1 0 = 0 ∨ (zset μ1 2 0 2 0) 3 1 0 = 1 := by
      rw [zo (by omega), tl]
      split
      · exact Or.inl rfl
      · exact Or.inr rfl
    refine k_X7_draft 7 _ _ (c_become 5 _ h01 _ (fun μ2 b1 b2 b3 b4 b5 b6 => ?_))
    have e3 : ∀ k, k ≤ 5 → μ2 3 0 k = μ1 3 1 k := fun k hk => by rw [b1 k hk, zo (by omega)]
    have hp3 : μ2 3 0 3 = (nP' : Int) := by rw [e3 3 (by omega), d1.1.2.2.1]; exact hP'
    have hp5 : nP' ≤ 5 := by have := i1.2.2.1.2; omega
    refine c_begin 5 nP' hp5 μ2 hp3 _ (fun μ3 a1 a2 a3 a4 a5 a6 => k_X6_forget 7 μ3 _ (k_X2_forget 7 _ _ (k_X10_forget 7 _ _ ?_)))
    generalize hμ4 : zset (zset (zset (zset μ3 5 0 1 0) 6 0 2 0) 7 0 7 0) 7 0 8 0 = μ4
    have f4 : ∀ t i k, ¬ (t = 5 ∧ k = 1) → ¬ (t = 6 ∧ k = 2) → ¬ (t = 7 ∧ (k = 7 ∨ k = 8)) → μ4 t i k = μ3 t i k := fun t i k q1 q2 q3 => by
      rw [← hμ4, zo (by omega), zo (by omega), zo (by omega), zo (by omega)]
    have g4 : ∀ t i k, t ≠ 2 → t ≠ 3 → t ≠ 4 → ¬ (10 ≤ t ∧ t ≤ 18) → ¬ (t = 5 ∧ k = 1) → ¬ (t = 6 ∧ k = 2) → ¬ (t = 7 ∧ (k = 7 ∨ k = 8)) → μ4 t i k = μ t i k := fun t i k q1 q2 q3 q4 q5 q6 q7 => by
      rw [f4 t i k q5 q6 q7, a6 t i k (by omega), b6 t i k (by omega), zo (by omega)]
      exact g1.2.2.2.2.2.1 t i k q1 (by omega)
    have d4 : ∀ t k, t = 3 ∨ (10 ≤ t ∧ t ≤ 14) → μ4 t 0 k = μ2 t 0 k := fun t k q => by rw [f4 _ _ _ (by omega) (by omega) (by omega), a6 _ _ _ (by omega)]
    have e4 : μ4 3 0 2 = R' 1 := by rw [d4 3 2 (by omega), e3 2 (by omega)]; exact d1.1.2.1
    rw [e4]
    refine m_house 1 L t3 μ4 hT (by rw [g4 _ _ _ (by omega) (by omega) (by omega) (by omega) (by omega) (by omega) (by omega)]; exact t2) (fun k hk => by rw [g4 _ _ _ (by omega) (by omega) (by omega) (by omega) (by omega) (by omega) (by omega)]; exact (t4 k hk).1) _ (fun fi2 R2 e' μ5 hz2 g5 => ?_) (fun f b μ5 hz2 hf => ?_)
    · rw [hz] at hz2
      cases hz2
      refine m_end 1 μ5 _ _ (fun μ6 q33 q34 q5 q13 q15 q370 q371 q10 qf => ?_)
      have m5 : ∀ k, k < 199 → μ5 33 1 k = R' k := g5.2.2.1
      have m33 : ∀ k, k < 199 → μ6 33 0 k = R' k := fun k hk => by rw [q33 k (by omega), if_neg (by omega)]; exact m5 k hk
      have h5 : ∀ t i k, ¬ (t = 9 ∧ (16 ≤ k ∨ k = 11)) → t ≠ 33 → μ5 t i k = μ4 t i k := fun t i k y1 y2 => by
        rw [g5.2.2.2 t i k (by omega) (by omega), zo (by omega)]
      have h6 : ∀ t i k, t ≠ 33 → ¬ (t = 34 ∧ i = 0) → t ≠ 9 → ¬ (t = 37 ∧ i = 0) → μ6 t i k = μ4 t i k := fun t i k y1 y2 y3 y4 => by
        rw [qf t i k y1 y2 (by omega) y4, h5 t i k (by omega) y1]
      have dd : ∀ t k, t = 3 ∨ (10 ≤ t ∧ t ≤ 14) → μ6 t 0 k = μ2 t 0 k := fun t k q => by rw [h6 _ _ _ (by omega) (by omega) (by omega) (by omega)]; exact d4 t k q
      have ll : ∀ t k, t = 4 ∨ (15 ≤ t ∧ t ≤ 18) → μ6 t 0 k = μ3 t 0 k := fun t k q => by rw [h6 _ _ _ (by omega) (by omega) (by omega) (by omega), f4 _ _ _ (by omega) (by omega) (by omega)]
      have c13 : ∀ p w : Nat, p < 5 → (p : Int) < R' 2 → w < 3 → μ2 13 0 (3 * p + w) = R' (160 + 5 * w + p) := fun p w y1 y2 y3 => by rw [b4 _ (by omega), zo (by omega)]; exact d1.2.2.2.1 p w y1 y2 y3
      refine ⟨(m33 1 (by omega)).symm, zRel_new (R := R') (v := if fi = true then 0 else 1) (X := X) i1 ?_ ?_ ?_ ?_ ?_ ?_ ?_ ?_ ?_ ?_ ?_ ?_ m33 ?_ ?_ ?_ ?_ ?_ ?_ ?_ ?_ q10 ?_ ?_ ?_ p5 q5 ?_ q370 q371 ?_ ?_ ?_ q13 ?_ q15⟩
      · split
        · exact Or.inl rfl
        · exact Or.inr rfl
      · intro y
        cases fi with
        | false => exact absurd y (by decide)
        | true => exact (zall_t _ _ _ _ _ hz).2
      · rw [dd 3 0 (by omega), e3 0 (by omega)]; exact tl
      · rw [dd 3 1 (by omega), e3 1 (by omega)]; exact d1.1.1
      · rw [dd 3 2 (by omega), e3 2 (by omega)]; exact d1.1.2.1
      · rw [dd 3 3 (by omega), e3 3 (by omega)]; exact d1.1.2.2.1
      · rw [dd 3 4 (by omega), e3 4 (by omega)]; exact d1.1.2.2.2
      · rw [dd 3 5 (by omega), e3 5 (by omega)]; exact u1
      · intro r y1 y2
        rw [dd 10 r (by omega), b2 r y1, zo (by omega)]; exact d1.2.1 r y1 y2
      · intro k y1
        rw [dd 11 k (by omega), dd 12 k (by omega), (b3 k y1).1, (b3 k y1).2, zo (by omega), zo (by omega)]; exact d1.2.2.1 k y1
      · intro p w y1 y2 y3
        rw [dd 13 _ (by omega)]; exact c13 p w y1 y2 y3
      · intro w c y1 y2 y3
        rw [dd 14 _ (by omega), b5 _ (by omega), zo (by omega)]; exact d1.2.2.2.2 w c y1 y2 y3
      · rw [q33 199 (by omega), if_pos rfl]
      · rw [ll 4 1 (by omega)]; exact a1
      · rw [ll 4 2 (by omega)]; exact a2
      · rw [ll 4 3 (by omega)]; exact a3
      · intro k y1
        rw [ll 15 k (by omega)]; exact a4 k y1
      · intro p y1 y2
        have h7 := a5 p (by omega)
        have w0 := c13 p 0 y1 y2 (by omega)
        have w1 := c13 p 1 y1 y2 (by omega)
        have w2 := c13 p 2 y1 y2 (by omega)
        rw [show 3 * p + 0 = 3 * p by omega, show 160 + 5 * 0 + p = 160 + p by omega] at w0
        rw [show 160 + 5 * 1 + p = 165 + p by omega] at w1
        rw [show 160 + 5 * 2 + p = 170 + p by omega] at w2
        rw [ll 16 p (by omega), ll 17 p (by omega), ll 18 p (by omega), h7.1, h7.2.1, h7.2.2, w0, w1, w2]
        exact ⟨rfl, rfl, rfl⟩
      · intro k y1
        rw [q34 k y1]
        by_cases z1 : 6 ≤ k ∧ k < 11
        · rw [if_pos z1, if_pos z1]; exact m5 _ (by omega)
        · rw [if_neg z1, if_neg z1]
          by_cases z2 : 11 ≤ k ∧ k < 16
          · rw [if_pos z2, if_pos z2]; exact m5 _ (by omega)
          · rw [if_neg z2, if_neg z2]
            by_cases z3 : 16 ≤ k ∧ k < 21
            · rw [if_pos z3, if_pos z3]; exact m5 _ (by omega)
            · rw [if_neg z3, if_neg z3]
      · rw [h6 _ _ _ (by omega) (by omega) (by omega) (by omega), f4 _ _ _ (by omega) (by omega) (by omega), a6 _ _ _ (by omega), b6 _ _ _ (by omega), zset_self]
      · rw [qf _ _ _ (by omega) (by omega) (by omega) (by omega), g5.2.2.2 _ _ _ (by omega) (by omega), zset_self, h6 _ _ _ (by omega) (by omega) (by omega) (by omega), f4 _ _ _ (by omega) (by omega) (by omega), a6 _ _ _ (by omega), b6 _ _ _ (by omega), zo (by omega)]
        exact g1.2.2.2.2.1.symm
      · rw [h6 _ _ _ (by omega) (by omega) (by omega) (by omega), ← hμ4, zo (by omega), zo (by omega), zo (by omega), zset_self]
      · rw [h6 _ _ _ (by omega) (by omega) (by omega) (by omega), g4 _ _ _ (by omega) (by omega) (by omega) (by omega) (by omega) (by omega) (by omega)]; exact p4
      · rw [h6 _ _ _ (by omega) (by omega) (by omega) (by omega), ← hμ4, zo (by omega), zo (by omega), zset_self]
      · rw [qf _ _ _ (by omega) (by omega) (by omega) (by omega), h5 _ _ _ (by omega) (by omega), g4 _ _ _ (by omega) (by omega) (by omega) (by omega) (by omega) (by omega) (by omega), h6 _ _ _ (by omega) (by omega) (by omega) (by omega), g4 _ _ _ (by omega) (by omega) (by omega) (by omega) (by omega) (by omega) (by omega)]; exact c1
      · rw [h6 _ _ _ (by omega) (by omega) (by omega) (by omega), g4 _ _ _ (by omega) (by omega) (by omega) (by omega) (by omega) (by omega) (by omega)]; exact c2
      · rw [h6 _ _ _ (by omega) (by omega) (by omega) (by omega), ← hμ4, zo (by omega), zset_self]
      · rw [h6 _ _ _ (by omega) (by omega) (by omega) (by omega), ← hμ4, zset_self]
    · rw [hz] at hz2
      cases hz2
  · have f1 : ∀ t i k, t ≠ 2 → ¬ ((t = 3 ∨ (10 ≤ t ∧ t ≤ 14)) ∧ i = 1) → (zset μ1 2 0 2 0) t i k = μ t i k := fun t i k q1 q2 => by
      rw [zo (by omega)]; exact hb.2.2.2.2.1 t i k q1 q2
    have e6 : (zset μ1 2 0 2 0) 2 0 6 = (b : Int) := by rw [zo (by omega)]; exact hb.2.2.2.1
    have e2 : (zset μ1 2 0 2 0) 2 0 2 = 0 := zset_self _ _ _ _ _
    generalize zset μ1 2 0 2 0 = ν at f1 e6 e2 ⊢
    refine m_house 1 L t3 ν hT (by rw [f1 _ _ _ (by omega) (by omega)]; exact t2) (fun k hk => by rw [f1 _ _ _ (by omega) (by omega)]; exact (t4 k hk).1) _ (fun fi2 R2 e' μ5 hz2 g5 => ?_) (fun f2 b2 μ5 hz2 hf => ?_)
    · rw [hz] at hz2
      cases hz2
    · rw [hz] at hz2
      cases hz2
      have h5 : ∀ t i k, ¬ (t = 9 ∧ (16 ≤ k ∨ k = 11)) → ¬ (t = 33 ∧ i = 1) → μ5 t i k = ν t i k := fun t i k y1 y2 => by
        rw [hf.2.2 t i k (by omega) y2, zo (by omega)]
      refine ⟨rfl, zRel_text hR0 (fun t i k y1 y2 y3 => ?_) ⟨0, ?_, ?_, by omega, fun k hk => absurd hk (by omega), ?_⟩⟩
      · unfold zsc at y1
        rw [zo (by omega), zo (by omega), h5 t i k (by omega) (by omega)]
        exact f1 t i k y2 (by omega)
      · rw [zo (by omega), zo (by omega), h5 _ _ _ (by omega) (by omega)]; exact e2
      · rw [zo (by omega), zset_self]; rfl
      · rw [zset_self, zo (by omega), zo (by omega), h5 _ _ _ (by omega) (by omega)]; exact e6.symm
