/-! QUERIES, both sides: SOUNDS -/
def zsnd (f : Nat → Nat → Int) (R P : Nat → Int) (x : Int) (p : Nat) : Bool := decide (f (R p).toNat (P p).toNat = x)
theorem s_csounds (x : Int) (μ : zM) {n : Nat} {B : Nat → Nat} {nP : Nat} (hp1 : μ 3 0 3 = (nP : Int)) (hp3 : nP ≤ 5) (hL : zLc μ 0) (hP : ∀ p, p < nP → ∃ r b : Nat, μ 16 0 p = (r : Int) ∧ μ 17 0 p = (b : Int) ∧ r < 6 ∧ b < 12) (K : Int → zM → Prop) (h : K (zbm (zsnd (rC μ 0) (μ 16 0) (μ 17 0) x) nP) μ) : zJ 8 m_X11_sounds 16 [some (zR 1 0), some (zI x), some (zI 0), some (zI 0)] μ (zQ1 K) := by
  have L : ∀ m i : Nat, i + m = nP → zJ 8 m_X11_sounds 16 [some (zR 1 0), some (zI x), some (zI (zbm (zsnd (rC μ 0) (μ 16 0) (μ 17 0) x) i)), some (zI (i : Int))] μ (zQ1 K) := by
    intro m
    induction m with
    | zero =>
      intro i hi
      refine k_X11_sounds_16 7 x _ i μ K ⟨fun _ => ?_, fun q => absurd q (by omega)⟩
      rw [show i = nP by omega]
      exact h
    | succ m ih =>
      intro i hi
      obtain ⟨r, b, v1, v2, v3, v4⟩ := hP i (by omega)
      have e := ih (i + 1) (by omega)
      rw [zbm_s] at e
      have ev : zsnd (rC μ 0) (μ 16 0) (μ 17 0) x i = decide (rC μ 0 r b = x) := by
        unfold zsnd
        rw [v1, v2, Int.toNat_natCast, Int.toNat_natCast]
      rw [ev] at e
      refine k_X11_sounds_16 7 x _ i μ K ⟨fun q => absurd q (by omega), fun _ => s_readBy 4 0 i r b (by omega) μ hL v1 v2 v3 v4 _ ?_⟩
      rw [z_fix (by omega) (by omega), z_or12 (zbm_12 _ (by omega)) (by omega)]
      refine ⟨fun q => ?_, fun q => ?_⟩
      · rw [if_neg (by simpa using q)] at e; exact e
      · rw [if_pos (by simpa using q)] at e; exact e
  exact L nP 0 (by omega)
theorem s_msounds (x : Int) (μ : zM) {n : Nat} {B : Nat → Nat} {nP : Nat} (hp1 : μ 33 0 2 = (nP : Int)) (hp3 : nP ≤ 5) (hL : zLm μ 0) (hP : ∀ p, p < nP → ∃ r b : Nat, μ 34 0 (6 + p) = (r : Int) ∧ μ 34 0 (11 + p) = (b : Int) ∧ r < 6 ∧ b < 12) (K : Int → zM → Prop) (h : K (zbm (zsnd (rM μ 0) (fun p => μ 34 0 (6 + p)) (fun p => μ 34 0 (11 + p)) x) nP) μ) : zJ 8 m_X12_sounds 19 [some (zR 9 0), some (zI x), some (zI 0), some (zI 0)] μ (zQ1 K) := by
  have L : ∀ m i : Nat, i + m = nP → zJ 8 m_X12_sounds 19 [some (zR 9 0), some (zI x), some (zI (zbm (zsnd (rM μ 0) (fun p => μ 34 0 (6 + p)) (fun p => μ 34 0 (11 + p)) x) i)), some (zI (i : Int))] μ (zQ1 K) := by
    intro m
    induction m with
    | zero =>
      intro i hi
      refine k_X12_sounds_19 7 x _ i μ K ⟨by omega, fun _ => ?_, fun q => absurd q (by omega)⟩
      rw [show i = nP by omega]
      exact h
    | succ m ih =>
      intro i hi
      obtain ⟨r, b, v1, v2, v3, v4⟩ := hP i (by omega)
      have e := ih (i + 1) (by omega)
      rw [zbm_s] at e
      have ev : zsnd (rM μ 0) (fun p => μ 34 0 (6 + p)) (fun p => μ 34 0 (11 + p)) x i = decide (rM μ 0 r b = x) := by
        show decide (rM μ 0 (μ 34 0 (6 + i)).toNat (μ 34 0 (11 + i)).toNat = x) = _
        rw [v1, v2, Int.toNat_natCast, Int.toNat_natCast]
      rw [ev] at e
      refine k_X12_sounds_19 7 x _ i μ K ⟨by omega, fun q => absurd q (by omega), fun _ => ?_⟩
      rw [z_i (c := 6) (m := 6 + i) (by omega) (by omega), z_i (c := 11) (m := 11 + i) (by omega) (by omega), Int.toNat_natCast, Int.toNat_natCast, v1, v2]
      refine ⟨⟨by omega, by omega⟩, ⟨by omega, by omega⟩, s_mreads 5 r b v3 v4 μ hL _ ?_⟩
      rw [z_fix (by omega) (by omega), z_or12 (zbm_12 _ (by omega)) (by omega), z_or0 _ (zset12_in (zbm_12 _ (by omega)))]
      refine ⟨fun q => ?_, fun q => ?_⟩
      · rw [if_neg (by simpa using q)] at e; exact e
      · rw [if_pos (by simpa using q)] at e; exact e
  exact L nP 0 (by omega)
theorem q_sounds (μ : zM) (hR : zRel μ) (x : Int) : zAsk m_X11_sounds m_X12_sounds [zI x] μ := by
  obtain ⟨n, B, nP, nW, hHs, hLR, hC, hM, hLc, hLm, he⟩ := zrd0 hR
  obtain ⟨hp1, hp2, hp3, -⟩ := hHs.2.2.2.2.2.2.2.1
  have hn := hC.2.1
  have P1 : ∀ p, p < nP → ∃ r b : Nat, μ 16 0 p = (r : Int) ∧ μ 17 0 p = (b : Int) ∧ r < 6 ∧ b < 12 := by
    intro p hp
    obtain ⟨⟨l1, l2, l3⟩, r, b, g, v1, v2, v3, v4, v5, v6⟩ := hLR.2.2.2.2 p hp
    have := (hC.2.2.1 r v4).2.2
    exact ⟨r, b, v1, v2, by omega, by omega⟩
  have P2 : ∀ p, p < nP → μ 34 0 (6 + p) = μ 16 0 p ∧ μ 34 0 (11 + p) = μ 17 0 p := by
    intro p hp
    obtain ⟨⟨l1, l2, l3⟩, -⟩ := hLR.2.2.2.2 p hp
    rw [Nat.zero_add] at l1 l2
    exact ⟨l1, l2⟩
  have P3 : ∀ p, p < nP → ∃ r b : Nat, μ 34 0 (6 + p) = (r : Int) ∧ μ 34 0 (11 + p) = (b : Int) ∧ r < 6 ∧ b < 12 := by
    intro p hp
    obtain ⟨r, b, h1, h2, h3⟩ := P1 p hp
    exact ⟨r, b, by rw [(P2 p hp).1, h1], by rw [(P2 p hp).2, h2], h3⟩
  have ee : zbm (zsnd (rM μ 0) (fun p => μ 34 0 (6 + p)) (fun p => μ 34 0 (11 + p)) x) nP = zbm (zsnd (rC μ 0) (μ 16 0) (μ 17 0) x) nP := by
    refine zbm_ext fun p hp => ?_
    show decide (rM μ 0 (μ 34 0 (6 + p)).toNat (μ 34 0 (11 + p)).toNat = x) = decide (rC μ 0 (μ 16 0 p).toNat (μ 17 0 p).toNat = x)
    rw [(P2 p hp).1, (P2 p hp).2, he]
  refine k_X11_sounds 7 x μ _ (s_beyond _ x 9 μ _ (fun q1 q2 => ⟨fun _ => s_csounds (n := n) (B := B) x μ hp1 hp3 hLc P1 _ ?_, fun z => absurd rfl z⟩) (fun q => ⟨fun z => absurd z (by decide), fun _ => ?_⟩))
  · exact k_X12_sounds 7 x μ _ (s_in _ _ _ _ μ _ (fun _ _ => ⟨fun _ => s_msounds (n := n) (B := B) x μ hp2 hp3 hLm P3 _ ⟨ee.symm, hR⟩, fun z => absurd (show (1 : Int) ≠ 0 by decide) z⟩) (fun q => absurd q (by omega)))
  · exact k_X12_sounds 7 x μ _ (s_in _ _ _ _ μ _ (fun _ _ => absurd q (by omega)) (fun _ => ⟨fun z => absurd rfl z, fun _ => ⟨rfl, hR⟩⟩))
