/-! QUERIES, both sides: NEAREST, MODULATION, SOUNDS, LOGGED, FAULT -/
theorem znear_v {k : Nat → Int} (hk : ∀ i, 0 ≤ k i ∧ k i < 12) (r : Nat) : ∀ i, znear k r i = (-1, 12) ∨ ∃ s, s < i ∧ s ≠ r ∧ znear k r i = ((s : Int), zaw (k r) (k s))
  | 0 => Or.inl rfl
  | i + 1 => by
    rw [znear_s]
    by_cases q : i = r
    · rw [if_pos q]
      rcases znear_v hk r i with h | ⟨s, h1, h2, h3⟩
      · exact Or.inl h
      · exact Or.inr ⟨s, by omega, h2, h3⟩
    · rw [if_neg q]
      by_cases q2 : zaw (k r) (k i) ≥ (znear k r i).2
      · rw [if_pos q2]
        rcases znear_v hk r i with h | ⟨s, h1, h2, h3⟩
        · exact Or.inl h
        · exact Or.inr ⟨s, by omega, h2, h3⟩
      · rw [if_neg q2]
        exact Or.inr ⟨i, by omega, q, rfl⟩
theorem s_mnearest (r : Nat) (μ : zM) {n : Nat} {B : Nat → Nat} (hH : zHm μ n B) (hr : r < n) (hL : zLm μ 0) (K : Int → zM → Prop) (h : K (znear (kM μ B) r n).1 μ) : zJ 8 m_X12_nearest 15 [some (zR 9 0), some (zI (r : Int)), some (zI (-1)), some (zI 0)] μ (zQ1 K) := by
  have hH0 := hH
  obtain ⟨e1, e2, e3, -⟩ := hH
  have hk : ∀ i, 0 ≤ kM μ B i ∧ kM μ B i < 12 := fun i => zkey_rg _ _
  have L : ∀ m i : Nat, i + m = n → zJ 8 m_X12_nearest 15 [some (zR 9 0), some (zI (r : Int)), some (zI (znear (kM μ B) r i).1), some (zI (i : Int))] μ (zQ1 K) := by
    intro m
    induction m with
    | zero =>
      intro i hi
      refine k_X12_nearest_15 7 r _ i μ K ⟨by omega, fun _ => ?_, fun q => absurd q (by omega)⟩
      rw [show i = n by omega]
      exact h
    | succ m ih =>
      intro i hi
      have e := ih (i + 1) (by omega)
      rw [znear_s] at e
      refine k_X12_nearest_15 7 r _ i μ K ⟨by omega, fun q => absurd q (by omega), fun _ => ?_⟩
      rw [z_fix (show (-2147483648 : Int) ≤ (i : Int) + 1 by omega) (by omega)]
      refine ⟨fun q => ?_, fun q => ?_⟩
      · rw [if_pos (by omega)] at e; exact e
      · rw [if_neg (by omega)] at e
        have ha := zaw_rg (hk r) (hk i)
        rcases znear_v hk r i with v | ⟨s, h1, h2, h3⟩
        · rw [v] at e ⊢
          rw [if_neg (by show ¬ zaw (kM μ B r) (kM μ B i) ≥ 12; omega)] at e
          exact ⟨fun _ => e, fun z => absurd rfl z⟩
        · rw [h3] at e ⊢
          refine ⟨fun z => absurd z (by show ¬ (s : Int) = -1; omega), fun _ => ?_⟩
          refine s_apart 3 r i μ hH0 hr (by omega) hL _ (s_apart 3 r s μ hH0 hr (by omega) hL _ ⟨fun q2 => ?_, fun q2 => ?_⟩)
          · rw [if_pos q2] at e; exact e
          · rw [if_neg q2] at e; exact e
  exact L n 0 (by omega)
theorem q_nearest (μ : zM) (hR : zRel μ) (a : Int) : zAsk m_X11_nearest m_X12_nearest [zI a] μ := by
  obtain ⟨n, B, nP, nW, hHs, hLR, hC, hM, hLc, hLm, he⟩ := zrd0 hR
  have ek : kM μ B = kC μ 0 B := by funext r; show zkey (rM μ 0 r) (B r) = zkey (rC μ 0 r) (B r); rw [he]
  refine k_X11_nearest 7 a μ _ (s_hasRoom _ 0 a μ _ (fun q1 q2 => ?_) (fun q => ?_))
  · rw [hC.1] at q2
    obtain ⟨r, rfl⟩ := Int.eq_ofNat_of_zero_le q1
    have hr : r < n := by omega
    refine ⟨fun _ => s_nearestRoom 3 0 r μ hC hr hLc _ ?_, fun z => absurd (show (1 : Int) ≠ 0 by decide) z⟩
    refine k_X12_nearest 7 r μ _ (s_isRoom 6 r μ hM _ (fun r' h1 h2 => ⟨fun _ => s_mnearest r μ hM hr hLm _ ⟨by rw [ek], hR⟩, fun z => absurd (show (1 : Int) ≠ 0 by decide) z⟩) (fun q => absurd q (by omega)))
  · rw [hC.1] at q
    refine ⟨fun z => absurd rfl z, fun _ => ?_⟩
    exact k_X12_nearest 7 a μ _ (s_isRoom 6 a μ hM _ (fun r' h1 h2 => absurd q (by omega)) (fun _ => ⟨fun z => absurd rfl z, fun _ => ⟨rfl, hR⟩⟩))
theorem s_mmodulation (r t : Nat) (μ : zM) {n : Nat} {B : Nat → Nat} (hH : zHm μ n B) (hr : r < n) (ht : t < n) (hL : zLm μ 0) (K : Int → zM → Prop) (h : K (zmod (kM μ B) n t 6 0 (2 ^ r)) μ) : zJ 8 m_X12_modulation 26 [some (zR 9 0), none, some (zI (t : Int)), some (zI (zshl 1 (r : Int))), some (zI 0), none, none, none] μ (zQ1 K) := by
  have hH0 := hH
  obtain ⟨e1, e2, e3, -⟩ := hH
  rw [z_shl1 r (by omega)]
  have h2 : ∀ r : Nat, r < 6 → zset12 ((2 : Int) ^ r) := by
    have : ∀ r : Nat, r < 6 → (0 ≤ (2 : Int) ^ r ∧ (2 : Int) ^ r < 4096) := by decide
    exact this
  have L : ∀ m i : Nat, i + m = 6 → ∀ s, zset12 s → zmod (kM μ B) n t 6 0 (2 ^ r) = zmod (kM μ B) n t m i s → zJ 8 m_X12_modulation 26 [some (zR 9 0), none, some (zI (t : Int)), some (zI s), some (zI (i : Int)), none, none, none] μ (zQ1 K) := by
    intro m
    induction m with
    | zero =>
      intro i hi s hs ha
      refine k_X12_modulation_26 7 t s i μ K ⟨fun _ => ?_, fun q => absurd q (by omega)⟩
      rw [ha] at h
      exact h
    | succ m ih =>
      intro i hi s hs ha
      refine k_X12_modulation_26 7 t s i μ K ⟨fun q => absurd q (by omega), fun _ => s_has _ s (zset12_in hs) t (by omega) μ _ ?_⟩
      rw [zmod_s _ _ _ m] at ha
      by_cases q : zbit s t = true
      · rw [if_pos q] at ha ⊢
        refine ⟨fun z => absurd z (by decide), fun _ => ?_⟩
        rw [ha] at h
        exact h
      · rw [if_neg q] at ha ⊢
        refine ⟨fun _ => ?_, fun z => absurd rfl z⟩
        have L2 : ∀ m2 x : Nat, x + m2 = n → zJ 8 m_X12_modulation 50 [some (zR 9 0), none, some (zI (t : Int)), some (zI (zstp (kM μ B) n s x)), some (zI (i : Int)), some (zI s), some (zI (x : Int)), none] μ (zQ1 K) := by
          intro m2
          induction m2 with
          | zero =>
            intro x hx
            refine k_X12_modulation_50 7 t _ i s x μ K ⟨by omega, fun _ => ?_, fun q => absurd q (by omega)⟩
            rw [show x = n by omega, z_fix (by omega) (by omega)]
            exact ih (i + 1) (by omega) _ (zstp_12 _ (by omega) hs) ha
          | succ m2 ih2 =>
            intro x hx
            refine k_X12_modulation_50 7 t _ i s x μ K ⟨by omega, fun q => absurd q (by omega), fun _ => ?_⟩
            have e := ih2 (x + 1) (by omega)
            rw [zstp_s] at e
            have hz := zstp_12 (kM μ B) (n := n) (by omega) hs (x := x)
            by_cases q3 : zbit s x = true
            · rw [if_pos q3] at e
              have L3 : ∀ m3 y : Nat, y + m3 = n → zJ 8 m_X12_modulation 64 [some (zR 9 0), none, some (zI (t : Int)), some (zI (zstp1 (kM μ B) s x y (zstp (kM μ B) n s x))), some (zI (i : Int)), some (zI s), some (zI (x : Int)), some (zI (y : Int))] μ (zQ1 K) := by
                intro m3
                induction m3 with
                | zero =>
                  intro y hy
                  refine k_X12_modulation_64 7 t _ i s x y μ K ⟨by omega, fun _ => ?_, fun q => absurd q (by omega)⟩
                  rw [show y = n by omega, z_fix (by omega) (by omega)]
                  exact e
                | succ m3 ih3 =>
                  intro y hy
                  refine k_X12_modulation_64 7 t _ i s x y μ K ⟨by omega, fun q => absurd q (by omega), fun _ => s_has _ s (zset12_in hs) x (by omega) μ _ ?_⟩
                  have e3 := ih3 (y + 1) (by omega)
                  rw [zstp1_s] at e3
                  have hz3 := zstp1_12 (kM μ B) s x hz (i := y) (by omega)
                  rw [if_pos q3, z_fix (show (-2147483648 : Int) ≤ (y : Int) + 1 by omega) (by omega)]
                  refine ⟨fun z => absurd z (by decide), fun _ => s_apart 3 x y μ hH0 (by omega) (by omega) hL _ ⟨fun q4 => ?_, fun q4 => ?_⟩⟩
                  · rw [if_pos (by omega)] at e3
                    rw [z_or0 _ (zset12_in hz3)]
                    exact e3
                  · rw [if_neg (by omega)] at e3
                    rw [z_or12 hz3 (by omega)]
                    exact e3
              exact L3 n 0 (by omega)
            · rw [if_neg q3] at e
              have L3 : ∀ m3 y : Nat, y + m3 = n → zJ 8 m_X12_modulation 64 [some (zR 9 0), none, some (zI (t : Int)), some (zI (zstp (kM μ B) n s x)), some (zI (i : Int)), some (zI s), some (zI (x : Int)), some (zI (y : Int))] μ (zQ1 K) := by
                intro m3
                induction m3 with
                | zero =>
                  intro y hy
                  refine k_X12_modulation_64 7 t _ i s x y μ K ⟨by omega, fun _ => ?_, fun q => absurd q (by omega)⟩
                  rw [z_fix (by omega) (by omega)]
                  exact e
                | succ m3 ih3 =>
                  intro y hy
                  refine k_X12_modulation_64 7 t _ i s x y μ K ⟨by omega, fun q => absurd q (by omega), fun _ => s_has _ s (zset12_in hs) x (by omega) μ _ ?_⟩
                  rw [if_neg q3, z_fix (show (-2147483648 : Int) ≤ (y : Int) + 1 by omega) (by omega), z_or0 _ (zset12_in hz)]
                  exact ⟨fun _ => ih3 (y + 1) (by omega), fun z => absurd rfl z⟩
              exact L3 n 0 (by omega)
        exact L2 n 0 (by omega)
  exact L 6 0 (by omega) _ (h2 r (by omega)) rfl
theorem q_modulation (μ : zM) (hR : zRel μ) (a b : Int) : zAsk m_X11_modulation m_X12_modulation [zI a, zI b] μ := by
  obtain ⟨n, B, nP, nW, hHs, hLR, hC, hM, hLc, hLm, he⟩ := zrd0 hR
  have ek : kM μ B = kC μ 0 B := by funext r; show zkey (rM μ 0 r) (B r) = zkey (rC μ 0 r) (B r); rw [he]
  have no : ¬ ((0 ≤ a ∧ a < n) ∧ (0 ≤ b ∧ b < n)) → zC1 8 m_X12_modulation [zR 9 0, zI a, zI b] μ (fun y μ2 => (-1000000001 : Int) = y ∧ zRel μ2) := by
    intro q
    refine k_X12_modulation 7 a b μ _ (s_isRoom 6 a μ hM _ (fun r h1 h2 => ⟨fun z => absurd z (by decide), fun _ => s_isRoom 6 b μ hM _ (fun t h3 h4 => absurd q (by omega)) (fun _ => ⟨fun z => absurd rfl z, fun _ => ⟨rfl, hR⟩⟩)⟩) (fun _ => ⟨fun _ => ⟨rfl, hR⟩, fun z => absurd rfl z⟩))
  refine k_X11_modulation 7 a b μ _ (s_hasRoom _ 0 a μ _ (fun q1 q2 => ?_) (fun q => ?_))
  · rw [hC.1] at q2
    refine ⟨fun z => absurd z (by decide), fun _ => s_hasRoom _ 0 b μ _ (fun q3 q4 => ?_) (fun q => ?_)⟩
    · rw [hC.1] at q4
      obtain ⟨r, rfl⟩ := Int.eq_ofNat_of_zero_le q1
      obtain ⟨t, rfl⟩ := Int.eq_ofNat_of_zero_le q3
      have hr : r < n := by omega
      have ht : t < n := by omega
      refine ⟨fun _ => s_stepsBetween 2 0 r t μ hC hr ht hLc _ ?_, fun z => absurd (show (1 : Int) ≠ 0 by decide) z⟩
      refine k_X12_modulation 7 r t μ _ (s_isRoom 6 r μ hM _ (fun r' h1 h2 => ⟨fun z => absurd z (by decide), fun _ => s_isRoom 6 t μ hM _ (fun t' h3 h4 => ⟨fun _ => s_mmodulation r t μ hM hr ht hLm _ ⟨by rw [ek], hR⟩, fun z => absurd (show (1 : Int) ≠ 0 by decide) z⟩) (fun q => absurd q (by omega))⟩) (fun q => absurd q (by omega)))
    · rw [hC.1] at q
      exact ⟨fun z => absurd rfl z, fun _ => no (by omega)⟩
  · rw [hC.1] at q
    exact ⟨fun _ => no (by omega), fun z => absurd rfl z⟩
theorem q_fault (μ : zM) (hR : zRel μ) : zAsk m_X11_fault m_X12_fault [] μ := by
  have hT := hR
  obtain ⟨n, B, nP, nW, h1, h2, ⟨L, -, -, -, -, h3⟩, -⟩ := hT
  exact k_X11_fault 7 μ _ (k_X7_place 7 μ _ (k_X12_fault 8 μ _ ⟨h3.symm, hR⟩))
