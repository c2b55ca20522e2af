/-! QUERIES, both sides: ROOM, BAR, PERSON, WALL, LOG, NEAREST, MODULATION, SOUNDS, DRY -/
theorem q_room (μ : zM) (hR : zRel μ) (a w : Int) : zAsk m_X11_room m_X12_room [zI a, zI w] μ := by
  obtain ⟨n, B, nP, nW, hHs, hLR, hC, hM, hLc, hLm, he⟩ := zrd0 hR
  refine k_X11_room 7 a w μ _ (s_hasRoom _ 0 a μ _ (fun q1 q2 => ?_) (fun q => ?_))
  · rw [hC.1] at q2
    obtain ⟨r, rfl⟩ := Int.eq_ofNat_of_zero_le q1
    have hr : r < n := by omega
    have hn := hC.2.1
    obtain ⟨g1, g2, g3⟩ := hC.2.2.1 r hr
    have m1 := (hM.2.2.1 r hr).1
    have l1 := (hLR.2.2.2.1 r (by omega)).1
    rw [Nat.zero_add] at l1
    have u1 := hHs.2.2.2.2.2.2.1
    have fin : ∀ x : Int, ((w < 0 ∨ 4 < w) → x = -1000000002) → (w = 0 → x = (B r : Int)) → (w = 1 → x = μ 15 0 r) → (w = 2 → x = zkey (rC μ 0 r) (B r)) → (w = 3 → x = (zrep (rC μ 0 r) (B r) : Int)) → (w = 4 → x = if zbit (μ 3 0 5) r = true then 1 else 0) → zC1 8 m_X12_room [zR 9 0, zI (r : Int), zI w] μ (fun y μ2 => x = y ∧ zRel μ2) := by
      intro x h0 h1 h2 h3 h4 h5
      refine k_X12_room 7 r w μ _ (s_isRoom 6 r μ hM _ (fun r' hr' _ => ?_) (fun q => absurd q (by omega)))
      rw [z_i (c := 4) (m := 4 + r) (by omega) (by omega), z_i (c := 0) (m := r) (by omega) (by omega), z_i (c := 10) (m := 10 + r) (by omega) (by omega), Int.toNat_natCast, Int.toNat_natCast, Int.toNat_natCast]
      refine ⟨fun _ => ⟨fun q => ⟨h0 q, hR⟩, fun q => ⟨⟨by omega, by omega⟩, by rw [m1]; exact h1 q, hR⟩, fun q => ⟨⟨by omega, by omega⟩, by rw [l1]; exact h2 q, hR⟩, fun q => s_mkey 4 r μ hM hr hLm _ ⟨by rw [he]; exact h3 q, hR⟩, fun q => s_mrepeat 4 r μ hM hr hLm _ ⟨by rw [he]; exact h4 q, hR⟩, fun q => ⟨⟨by omega, by omega⟩, by rw [u1.2 r hr]; exact h5 q, hR⟩, trivial⟩, fun z => absurd (show (1 : Int) ≠ 0 by decide) z⟩
    refine ⟨fun _ => ⟨fun q => fin _ (fun _ => rfl) (by omega) (by omega) (by omega) (by omega) (by omega), fun q => s_barsOf 6 0 r (by omega) μ _ ?_, fun q => s_liftedIn 6 0 r (by omega) μ _ ?_, fun q => s_keyOf 4 0 r μ hC hr hLc _ ?_, fun q => s_repeatOf 2 0 r μ hC hr hLc _ ?_, fun q => k_X1_hasUnder 6 0 r μ _ (s_isIn _ _ (zset12_in u1.1) r (by omega) μ _ ?_), trivial⟩, fun z => absurd (show (1 : Int) ≠ 0 by decide) z⟩
    · rw [g1]; exact fin _ (by omega) (fun _ => rfl) (by omega) (by omega) (by omega) (by omega)
    · exact fin _ (by omega) (by omega) (fun _ => rfl) (by omega) (by omega) (by omega)
    · exact fin _ (by omega) (by omega) (by omega) (fun _ => rfl) (by omega) (by omega)
    · exact fin _ (by omega) (by omega) (by omega) (by omega) (fun _ => rfl) (by omega)
    · by_cases z : zbit (μ 3 0 5) r = true
      · rw [if_pos z]
        exact ⟨Or.inr rfl, fun q => absurd q (by decide), fun _ => fin _ (by omega) (by omega) (by omega) (by omega) (by omega) (fun _ => by rw [if_pos z])⟩
      · rw [if_neg z]
        exact ⟨Or.inl rfl, fun _ => fin _ (by omega) (by omega) (by omega) (by omega) (by omega) (fun _ => by rw [if_neg z]), fun q => absurd rfl q⟩
  · refine ⟨fun z => absurd rfl z, fun _ => ?_⟩
    rw [hC.1] at q
    exact k_X12_room 7 a w μ _ (s_isRoom 6 a μ hM _ (fun r hr hn => absurd q (by omega)) (fun _ => ⟨fun z => absurd rfl z, fun _ => ⟨rfl, hR⟩⟩))
theorem q_bar (μ : zM) (hR : zRel μ) (a b w : Int) : zAsk m_X11_bar m_X12_bar [zI a, zI b, zI w] μ := by
  obtain ⟨n, B, nP, nW, hHs, hLR, hC, hM, hLc, hLm, he⟩ := zrd0 hR
  refine k_X11_bar 7 a b w μ _ (s_hasBar 5 a b μ hC _ (fun r c hr hc hrn hcn => ?_) (fun q => ?_))
  · subst hr; subst hc
    have hn := hC.2.1
    obtain ⟨g1, g2, g3⟩ := hC.2.2.1 r hrn
    have p1 := hHs.2.2.1 (12 * r + c) (by omega)
    have p2 := hHs.2.2.2.1 (12 * r + c) (by omega)
    have fin : ∀ x : Int, ((w < 0 ∨ 2 < w) → x = -1000000002) → (w = 0 → x = μ 11 0 (12 * r + c)) → (w = 1 → x = μ 12 0 (12 * r + c)) → (w = 2 → x = rC μ 0 r c) → zC1 8 m_X12_bar [zR 9 0, zI (r : Int), zI (c : Int), zI w] μ (fun y μ2 => x = y ∧ zRel μ2) := by
      intro x h0 h1 h2 h3
      refine k_X12_bar 7 r c w μ _ (s_isBar 5 r c μ hM _ (fun r' c' _ _ _ _ => ⟨fun _ => s_in _ _ _ _ μ _ (fun q1 q2 => ⟨fun _ => ⟨fun z1 => ⟨fun z2 => s_turned _ r c (by omega) (by omega) 0 μ _ ⟨?_, hR⟩, fun z2 => s_turned _ r c (by omega) (by omega) 1 μ _ ⟨?_, hR⟩⟩, fun z1 => s_mreads 5 r c (by omega) (by omega) μ hLm _ ⟨?_, hR⟩⟩, fun z => absurd (show (1 : Int) ≠ 0 by decide) z⟩) (fun q => ⟨fun z => absurd rfl z, fun _ => ⟨h0 (by omega), hR⟩⟩), fun z => absurd (show (1 : Int) ≠ 0 by decide) z⟩) (fun q => absurd ⟨r, c, rfl, rfl, hrn, hcn⟩ q))
      · rw [if_pos rfl, show 16 + 12 * r + c = 16 + (12 * r + c) by omega, ← p1]; exact h1 (by omega)
      · rw [if_neg (by decide), show 88 + 12 * r + c = 88 + (12 * r + c) by omega, ← p2]; exact h2 (by omega)
      · rw [he]; exact h3 (by omega)
    refine ⟨fun _ => ⟨fun q => fin _ (fun _ => rfl) (by omega) (by omega) (by omega), fun q => s_paperOf 6 0 r c (by omega) (by omega) μ _ (fin _ (by omega) (fun _ => rfl) (by omega) (by omega)), fun q => s_underOf 6 0 r c (by omega) (by omega) μ _ (fin _ (by omega) (by omega) (fun _ => rfl) (by omega)), fun q => s_reads 5 0 r c (by omega) (by omega) μ hLc _ (fin _ (by omega) (by omega) (by omega) (fun _ => rfl)), trivial⟩, fun z => absurd (show (1 : Int) ≠ 0 by decide) z⟩
  · refine ⟨fun z => absurd rfl z, fun _ => ?_⟩
    exact k_X12_bar 7 a b w μ _ (s_isBar 5 a b μ hM _ (fun r c h1 h2 h3 h4 => absurd ⟨r, c, h1, h2, h3, h4⟩ q) (fun _ => ⟨fun z => absurd rfl z, fun _ => ⟨rfl, hR⟩⟩))
theorem s_isPerson (d : Nat) (a : Int) (μ : zM) {nP : Nat} (hP : μ 33 0 2 = (nP : Int)) (hP5 : nP ≤ 5) (K : Int → zM → Prop) (h1 : ∀ p : Nat, a = p → p < nP → K 1 μ) (h0 : ¬ (0 ≤ a ∧ a < nP) → K 0 μ) : zC1 (d + 1) m_X12_isPerson [zR 9 0, zI a] μ K := by
  refine k_X12_isPerson d a μ K ⟨by decide, ?_⟩
  rw [hP, z_fix (by omega) (by omega)]
  refine s_in d a 0 _ μ _ (fun q1 q2 => ⟨Or.inr rfl, ?_⟩) (fun q => ⟨Or.inl rfl, h0 (by omega)⟩)
  obtain ⟨r, rfl⟩ := Int.eq_ofNat_of_zero_le q1
  exact h1 r rfl (by omega)
theorem q_person (μ : zM) (hR : zRel μ) (a w : Int) : zAsk m_X11_person m_X12_person [zI a, zI w] μ := by
  obtain ⟨n, B, nP, nW, hHs, hLR, hC, hM, hLc, hLm, he⟩ := zrd0 hR
  obtain ⟨hp1, hp2, hp3, -⟩ := hHs.2.2.2.2.2.2.2.1
  refine k_X11_person 7 a w μ _ (s_hasPerson _ 0 a μ _ (fun q1 q2 => ?_) (fun q => ?_))
  · rw [hp1] at q2
    obtain ⟨p, rfl⟩ := Int.eq_ofNat_of_zero_le q1
    have hp : p < nP := by omega
    have hn := hC.2.1
    obtain ⟨⟨l1, l2, l3⟩, r, b, g, v1, v2, v3, v4, v5, v6⟩ := hLR.2.2.2.2 p hp
    rw [Nat.zero_add] at l1 l2 l3
    have g3 := (hC.2.2.1 r v4).2.2
    have fin : ∀ x : Int, ((w < 0 ∨ 3 < w) → x = -1000000002) → (w = 0 → x = μ 16 0 p) → (w = 1 → x = μ 17 0 p) → (w = 2 → x = μ 18 0 p) → (w = 3 → x = rC μ 0 r b) → zC1 8 m_X12_person [zR 9 0, zI (p : Int), zI w] μ (fun y μ2 => x = y ∧ zRel μ2) := by
      intro x h0 h1 h2 h3 h4
      refine k_X12_person 7 p w μ _ (s_isPerson 6 p μ hp2 hp3 _ (fun p' _ _ => ⟨fun _ => s_in _ _ _ _ μ _ (fun q1 q2 => ⟨fun _ => ⟨fun z1 => ?_, fun z1 => ?_⟩, fun z => absurd (show (1 : Int) ≠ 0 by decide) z⟩) (fun q => ⟨fun z => absurd rfl z, fun _ => ⟨h0 (by omega), hR⟩⟩), fun z => absurd (show (1 : Int) ≠ 0 by decide) z⟩) (fun q => absurd q (by omega)))
      · rw [z_i (c := 6) (m := 6 + p) (by omega) (by omega), z_i (c := 11) (m := 11 + p) (by omega) (by omega), Int.toNat_natCast, Int.toNat_natCast, l1, l2, v1, v2]
        exact ⟨⟨by omega, by omega⟩, ⟨by omega, by omega⟩, s_mreads 5 r b (by omega) (by omega) μ hLm _ ⟨by rw [he]; exact h4 (by omega), hR⟩⟩
      · have e : w32 (5 * w) = 5 * w := z_fix (by omega) (by omega)
        rw [e, show w32 (6 + 5 * w) = 6 + 5 * w from z_fix (by omega) (by omega), z_fix (by omega) (by omega)]
        refine ⟨⟨by omega, by omega⟩, ?_, hR⟩
        rcases (show w = 0 ∨ w = 1 ∨ w = 2 by omega) with rfl | rfl | rfl
        · rw [show ((6 : Int) + 5 * 0 + (p : Int)).toNat = 6 + p by omega, l1]; exact h1 rfl
        · rw [show ((6 : Int) + 5 * 1 + (p : Int)).toNat = 11 + p by omega, l2]; exact h2 rfl
        · rw [show ((6 : Int) + 5 * 2 + (p : Int)).toNat = 16 + p by omega, l3]; exact h3 rfl
    refine ⟨fun _ => ⟨fun q => fin _ (fun _ => rfl) (by omega) (by omega) (by omega) (by omega), fun q => s_roomOf 6 0 p (by omega) μ _ (fin _ (by omega) (fun _ => rfl) (by omega) (by omega) (by omega)), fun q => s_placeOf 6 0 p (by omega) μ _ (fin _ (by omega) (by omega) (fun _ => rfl) (by omega) (by omega)), fun q => s_paceOf 6 0 p (by omega) μ _ (fin _ (by omega) (by omega) (by omega) (fun _ => rfl) (by omega)), fun q => s_readBy 4 0 p r b (by omega) μ hLc v1 v2 (by omega) (by omega) _ (fin _ (by omega) (by omega) (by omega) (by omega) (fun _ => rfl)), trivial⟩, fun z => absurd (show (1 : Int) ≠ 0 by decide) z⟩
  · refine ⟨fun z => absurd rfl z, fun _ => ?_⟩
    rw [hp1] at q
    exact k_X12_person 7 a w μ _ (s_isPerson 6 a μ hp2 hp3 _ (fun p h1 h2 => absurd q (by omega)) (fun _ => ⟨fun z => absurd rfl z, fun _ => ⟨rfl, hR⟩⟩))
theorem q_wall (μ : zM) (hR : zRel μ) (a w : Int) : zAsk m_X11_wall m_X12_wall [zI a, zI w] μ := by
  obtain ⟨n, B, nP, nW, hHs, hLR, hC, hM, hLc, hLm, he⟩ := zrd0 hR
  obtain ⟨hp1, hp2, hp3, hw⟩ := hHs.2.2.2.2.2.2.2.2.2.1
  refine k_X11_wall 7 a w μ _ (s_hasWall _ 0 a μ _ (fun q1 q2 => ?_) (fun q => ?_))
  · rw [hp1] at q2
    obtain ⟨p, rfl⟩ := Int.eq_ofNat_of_zero_le q1
    have hp : p < nW := by omega
    have fin : ∀ x : Int, (¬ (0 ≤ w ∧ w ≤ 3) → x = -1000000002) → (∀ c : Nat, w = c → c < 4 → x = μ 14 0 (4 * p + c)) → zC1 8 m_X12_wall [zR 9 0, zI (p : Int), zI w] μ (fun y μ2 => x = y ∧ zRel μ2) := by
      intro x h0 h1
      refine k_X12_wall 7 p w μ _ ⟨by decide, ?_⟩
      rw [hp2, z_fix (show (-2147483648 : Int) ≤ (nW : Int) - 1 by omega) (by omega)]
      refine s_in _ _ _ _ μ _ (fun _ _ => ⟨fun _ => s_in _ _ _ _ μ _ (fun q3 q4 => ⟨fun z => absurd z (by decide), fun _ => ?_⟩) (fun q => ⟨fun _ => ⟨h0 q, hR⟩, fun z => absurd rfl z⟩), fun z => absurd (show (1 : Int) ≠ 0 by decide) z⟩) (fun q => absurd q (by omega))
      obtain ⟨c, rfl⟩ := Int.eq_ofNat_of_zero_le q3
      rw [show w32 (6 * (c : Int)) = 6 * (c : Int) from z_fix (by omega) (by omega), show w32 (175 + 6 * (c : Int)) = 175 + 6 * (c : Int) from z_fix (by omega) (by omega), z_fix (by omega) (by omega)]
      refine ⟨⟨by omega, by omega⟩, ?_, hR⟩
      rw [show (175 + 6 * (c : Int) + (p : Int)).toNat = 175 + 6 * c + p by omega, hw p c hp (by omega)]
      exact h1 c rfl (by omega)
    refine ⟨fun _ => s_beyond _ w 3 μ _ (fun q3 q4 => ⟨fun _ => ?_, fun z => absurd rfl z⟩) (fun q => ⟨fun z => absurd z (by decide), fun _ => fin _ (fun _ => rfl) (fun c h1 h2 => absurd q (by omega))⟩), fun z => absurd (show (1 : Int) ≠ 0 by decide) z⟩
    obtain ⟨c, rfl⟩ := Int.eq_ofNat_of_zero_le q3
    refine s_wallPart 6 0 p c (by omega) (by omega) μ _ (fin _ (by omega) (fun c' h1 h2 => ?_))
    rw [show c' = c by omega]
  · refine ⟨fun z => absurd rfl z, fun _ => ?_⟩
    rw [hp1] at q
    refine k_X12_wall 7 a w μ _ ⟨by decide, ?_⟩
    rw [hp2, z_fix (show (-2147483648 : Int) ≤ (nW : Int) - 1 by omega) (by omega)]
    exact s_in _ _ _ _ μ _ (fun q1 q2 => absurd q (by omega)) (fun _ => ⟨fun z => absurd rfl z, fun _ => ⟨rfl, hR⟩⟩)
theorem q_dry (μ : zM) (hR : zRel μ) (a b : Int) : zAsk m_X11_dry m_X12_dry [zI a, zI b] μ := by
  have out : ¬ (0 ≤ a ∧ a ≤ 60) ∨ ¬ (0 ≤ b ∧ b ≤ 100) → zC1 8 m_X12_dry [zR 9 0, zI a, zI b] μ (fun y μ2 => (-1000000002 : Int) = y ∧ zRel μ2) := by
    intro hq
    refine k_X12_dry 7 a b μ _ (s_in _ _ _ _ μ _ (fun q1 q2 => ⟨fun z => absurd z (by decide), fun _ => s_in _ _ _ _ μ _ (fun q3 q4 => absurd hq (by omega)) (fun _ => ⟨fun z => absurd rfl z, fun _ => ⟨rfl, hR⟩⟩)⟩) (fun _ => ⟨fun _ => ⟨rfl, hR⟩, fun z => absurd rfl z⟩))
  refine k_X11_dry 7 a b μ _ (s_beyond _ a 60 μ _ (fun q1 q2 => ⟨fun z => absurd rfl z, fun _ => s_beyond _ b 100 μ _ (fun q3 q4 => ⟨fun _ => ?_, fun z => absurd rfl z⟩) (fun q => ⟨fun z => absurd z (by decide), fun _ => out (Or.inr q)⟩)⟩) (fun q => ⟨fun _ => out (Or.inl q), fun z => absurd (show (1 : Int) ≠ 0 by decide) z⟩))
  obtain ⟨a, rfl⟩ := Int.eq_ofNat_of_zero_le q1
  obtain ⟨b, rfl⟩ := Int.eq_ofNat_of_zero_le q3
  -- the same run on both sides
  have L : ∀ m i : Nat, i + m = a → ∀ x : Int, ∃ v : Int, (∀ K : Int → zM → Prop, K v μ → zJ 8 m_X11_dry 28 [none, some (zI (a : Int)), some (zI (b : Int)), some (zL x), none, some (zI (i : Int))] μ (zQ1 K)) ∧ (∀ K : Int → zM → Prop, K v μ → zJ 8 m_X12_dry 34 [none, some (zI (a : Int)), some (zI (b : Int)), some (zL x), none, some (zI (i : Int))] μ (zQ1 K)) := by
    intro m
    induction m with
    | zero =>
      intro i hi x
      exact ⟨w32 x, fun K h => k_X11_dry_28 7 a b x i μ K ⟨fun _ => h, fun q => absurd q (by omega)⟩, fun K h => k_X12_dry_34 7 a b x i μ K ⟨fun _ => h, fun q => absurd q (by omega)⟩⟩
    | succ m ih =>
      intro i hi x
      obtain ⟨v, h1, h2⟩ := ih (i + 1) (by omega) (w64 (Int.tdiv (w64 (x * (b : Int))) 100))
      refine ⟨v, fun K h => k_X11_dry_28 7 a b x i μ K ⟨fun q => absurd q (by omega), fun _ => ⟨by decide, ?_⟩⟩, fun K h => k_X12_dry_34 7 a b x i μ K ⟨fun q => absurd q (by omega), fun _ => ⟨by decide, ?_⟩⟩⟩
      · rw [z_fix (by omega) (by omega)]; exact h1 K h
      · rw [z_fix (by omega) (by omega)]; exact h2 K h
  obtain ⟨v, h1, h2⟩ := L a 0 (by omega) 1000000000
  refine h1 _ (k_X12_dry 7 a b μ _ (s_in _ _ _ _ μ _ (fun _ _ => ⟨fun z => absurd z (by decide), fun _ => s_in _ _ _ _ μ _ (fun _ _ => ⟨fun _ => h2 _ ⟨rfl, hR⟩, fun z => absurd (show (1 : Int) ≠ 0 by decide) z⟩) (fun q => absurd q (by omega))⟩) (fun q => absurd q (by omega))))
