/-! GO BACK, MOVE TO, both sides -/
theorem q_goBack (μ : zM) (hR : zRel μ) (a : Int) : zAsk m_X11_goBack m_X12_goBack [zI a] μ := by
  have hR0 := hR
  obtain ⟨n, B, nP, nW, r1, ⟨r2, r3⟩, r4, ⟨N, X, p1, p2, p3, p4, p5, p6⟩, ⟨k1, k2⟩, ⟨c1, c2, c3⟩, r8, r9⟩ := hR
  have hp5 := r1.2.2.2.2.2.2.2.1.2.2.1
  refine k_X11_goBack 7 a μ _ (s_beyond _ a 1 μ _ (fun q1 q2 => ⟨fun _ => ?_, fun z => absurd rfl z⟩) (fun q => ⟨fun z => absurd z (by decide), fun _ => ?_⟩))
  · obtain ⟨i, rfl⟩ := Int.eq_ofNat_of_zero_le q1
    have k12 : zset12 (μ 6 0 2) := ⟨k1.1, by omega⟩
    obtain ⟨g1, g2⟩ := k2 i (by omega)
    refine k_X2_has 6 i μ _ (s_isIn _ _ (zset12_in k12) i (by omega) μ _ ?_)
    by_cases q : zbit (μ 6 0 2) i = true
    · rw [if_pos q]
      rw [if_pos q] at g1
      obtain ⟨g3, g4, g5, g6⟩ := g2 q
      refine ⟨Or.inr rfl, fun _ => k_X2_restore 6 i 0 μ _ ⟨fun q => absurd q (by omega), fun _ => ⟨fun q => absurd q (by omega), fun _ => ⟨⟨by omega, by omega⟩, ⟨by omega, by omega⟩, ?_⟩⟩⟩, fun z => absurd (show (1 : Int) ≠ 0 by decide) z⟩
      rw [Int.toNat_natCast]
      refine s_become 4 0 (32 + i) (by omega) μ _ (fun μ1 hb => k_X2_chanceOf 6 i μ1 _ (s_at_23 6 i (by omega) μ1 _ ?_))
      obtain ⟨b1, b2, b3, b4, b5⟩ := hb
      unfold zlv at b5
      rw [b5 23 _ _ (by omega)]
      refine k_X6_forget 7 _ _ (k_X12_goBack 7 i _ _ (s_in _ _ _ _ _ _ (fun _ _ => ⟨fun _ => ⟨⟨by omega, by omega⟩, ?_⟩, fun z => absurd (show (1 : Int) ≠ 0 by decide) z⟩) (fun q => absurd q (by omega))))
      rw [show w32 (45 * (i : Int)) = ((45 * i : Nat) : Int) by rw [z_fix (by omega) (by omega)]; omega, Int.toNat_natCast, show (zset (zset μ1 1 0 8 (μ 23 0 i)) 5 0 1 0) 37 0 i = 1 by rw [zo (by omega), zo (by omega), b5 _ _ _ (by omega)]; exact g1]
      refine ⟨fun _ => s_copies_36_34 7 (45 * i) 0 0 44 (by omega) (by omega) _ _ ?_, fun z => absurd (show (1 : Int) ≠ 0 by decide) z⟩
      rw [show w32 (((45 * i : Nat) : Int) + 44) = ((45 * i + 44 : Nat) : Int) by rw [z_fix (by omega) (by omega)]; omega, Int.toNat_natCast]
      refine ⟨⟨by omega, by omega⟩, ?_⟩
      rw [show zcpy (zset (zset μ1 1 0 8 (μ 23 0 i)) 5 0 1 0) 36 0 (45 * i) 34 0 0 44 36 0 (45 * i + 44) = μ 23 0 i by rw [zcyo (by omega), zo (by omega), zo (by omega), b5 _ _ _ (by omega)]; exact g4]
      have fr : ∀ t j k, ¬ ((t = 4 ∨ 15 ≤ t ∧ t ≤ 19) ∧ j = 0) → ¬ (t = 1 ∧ k = 8) → ¬ (t = 5 ∧ k = 1) → ¬ (t = 34 ∧ j = 0) → ¬ (t = 9 ∧ (k = 5 ∨ k = 8)) → (zset (zset (zcpy (zset (zset μ1 1 0 8 (μ 23 0 i)) 5 0 1 0) 36 0 (45 * i) 34 0 0 44) 9 0 8 (μ 23 0 i)) 9 0 5 0) t j k = μ t j k := by
        intro t j k h1 h2 h3 h4 h5
        rw [zo (by omega), zo (by omega), zcyo (by omega), zo (by omega), zo (by omega)]
        exact b5 t j k (by omega)
      have new : zLR (zset (zset (zcpy (zset (zset μ1 1 0 8 (μ 23 0 i)) 5 0 1 0) 36 0 (45 * i) 34 0 0 44) 9 0 8 (μ 23 0 i)) 9 0 5 0) n B nP 0 34 0 0 := by
        refine zLR_mv hp5 (fun k h1 h2 => ?_) (fun k h1 => ?_) (fun t k h1 h2 h3 => ?_) (fun k h1 => ?_) (fun k h1 => ?_) g3
        · rw [zo (by omega), zo (by omega), zcyo (by omega), zo (by omega), zo (by omega)]; exact b1 k h1 h2
        · rw [zo (by omega), zo (by omega), zcyo (by omega), zo (by omega), zo (by omega)]; exact b2 k h1
        · rw [zo (by omega), zo (by omega), zcyo (by omega), zo (by omega), zo (by omega)]; exact b3 t k h1 h2 h3
        · rw [zo (by omega), zo (by omega), zcyo (by omega), zo (by omega), zo (by omega)]; exact b4 k h1
        · rw [zo (by omega), zo (by omega), zcyi (by omega) (by omega) rfl rfl, zo (by omega), zo (by omega), b5 _ _ _ (by omega), show 45 * i + (0 + k - 0) = 45 * i + k by omega]
      have f1 : (zset (zset (zcpy (zset (zset μ1 1 0 8 (μ 23 0 i)) 5 0 1 0) 36 0 (45 * i) 34 0 0 44) 9 0 8 (μ 23 0 i)) 9 0 5 0) 1 0 8 = μ 23 0 i := by
        rw [zo (by omega), zo (by omega), zcyo (by omega), zo (by omega), zset_self]
      have f98 : (zset (zset (zcpy (zset (zset μ1 1 0 8 (μ 23 0 i)) 5 0 1 0) 36 0 (45 * i) 34 0 0 44) 9 0 8 (μ 23 0 i)) 9 0 5 0) 9 0 8 = μ 23 0 i := by
        rw [zo (by omega), zset_self]
      have f95 : (zset (zset (zcpy (zset (zset μ1 1 0 8 (μ 23 0 i)) 5 0 1 0) 36 0 (45 * i) 34 0 0 44) 9 0 8 (μ 23 0 i)) 9 0 5 0) 9 0 5 = 0 := zset_self _ _ _ _ _
      have f51 : (zset (zset (zcpy (zset (zset μ1 1 0 8 (μ 23 0 i)) 5 0 1 0) 36 0 (45 * i) 34 0 0 44) 9 0 8 (μ 23 0 i)) 9 0 5 0) 5 0 1 = 0 := by
        rw [zo (by omega), zo (by omega), zcyo (by omega), zset_self]
      generalize (zset (zset (zcpy (zset (zset μ1 1 0 8 (μ 23 0 i)) 5 0 1 0) 36 0 (45 * i) 34 0 0 44) 9 0 8 (μ 23 0 i)) 9 0 5 0) = ρ at fr new f1 f98 f95 f51 ⊢
      refine ⟨rfl, n, B, nP, nW, zHs_cg ?_ ?_ r1, ⟨new, new.1.2.2⟩, zTx_cg ?_ ?_ ?_ ?_ ?_ ?_ r4, ⟨0, X, f51, f95, by omega, ?_, p5, fun k hk => absurd hk (by omega)⟩, zIm_cg hp5 ?_ ?_ ?_ ?_ ?_ ⟨k1, k2⟩, ⟨by rw [f98, f1], by rw [f1]; exact ⟨g5, g6⟩⟩, zSg_cg ?_ ?_ ?_ r8, zBk_cg ?_ ?_ ?_ r9⟩
      case refine_9 => rw [fr _ _ _ (by omega) (by omega) (by omega) (by omega) (by omega)]; exact p4
      all_goals intros; refine fr _ _ _ ?_ ?_ ?_ ?_ ?_ <;> omega
    · rw [if_neg q]
      rw [if_neg q] at g1
      refine ⟨Or.inl rfl, fun z => absurd rfl z, fun _ => ?_⟩
      refine k_X12_goBack 7 i μ _ (s_in _ _ _ _ _ _ (fun _ _ => ⟨fun _ => ⟨⟨by omega, by omega⟩, ?_⟩, fun z => absurd (show (1 : Int) ≠ 0 by decide) z⟩) (fun q => absurd q (by omega)))
      rw [Int.toNat_natCast, g1]
      exact ⟨fun z => absurd rfl z, fun _ => ⟨rfl, hR0⟩⟩
  · exact k_X12_goBack 7 a μ _ (s_in _ _ _ _ _ _ (fun _ _ => absurd q (by omega)) (fun _ => ⟨fun z => absurd rfl z, fun _ => ⟨rfl, hR0⟩⟩))
theorem zOK_45 {n : Nat} {B : Nat → Nat} {nP : Nat} {S : zST} {M : Nat} (o : zOK n B nP S M) {p r b : Nat} (hr : r < n) (hb : b < B r) : zOK n B nP (zuS (zuS S 4 p (r : Int)) 5 p (b : Int)) M := by
  obtain ⟨o1, o2, o3, o4, o5, o6⟩ := o
  refine ⟨by rw [zuS_o (by omega), zuS_o (by omega)]; exact o1, by rw [zuS_o (by omega), zuS_o (by omega)]; exact o2, by rw [zuS_o (by omega), zuS_o (by omega)]; exact o3, fun k q1 q2 => by rw [zuS_o (by omega), zuS_o (by omega)]; exact o4 k q1 q2, fun x hx => by rw [zuS_o (by omega), zuS_o (by omega)]; exact o5 x hx, fun x hx => ?_⟩
  obtain ⟨r', b', g, h1, h2, h3, h4, h5, h6⟩ := o6 x hx
  rw [zuS_o (a := 5) (a' := 6) (by omega), zuS_o (a := 4) (a' := 6) (by omega), zuS_o (a := 5) (a' := 4) (by omega)]
  by_cases q : x = p
  · subst q; rw [zuS_i, zuS_i]
    exact ⟨r, b, g, rfl, rfl, h3, hr, hb, h6⟩
  · rw [zuS_o (by omega), zuS_o (by omega), zuS_o (by omega)]; exact ⟨r', b', g, h1, h2, h3, h4, h5, h6⟩
theorem q_moveTo (μ : zM) (hR : zRel μ) (a b : Int) : zAsk m_X11_moveTo m_X12_moveTo [zI a, zI b] μ := by
  obtain ⟨n, B, nP, nW, S, M, N, X, PS, c, hO, hC, hM, hD⟩ := zRel_to hR
  have hp5 := zHO_5 hO
  have hHc := hO.1.1
  have hHm := hO.1.2.1
  have hn := hHc.2.1
  have hP1 := hO.1.2.2.2.2.2.2.2.1.1
  have hP2 := hO.1.2.2.2.2.2.2.2.1.2.1
  have hLc := zLC_lc hD.1 hC.1
  have no : ¬ ((0 ≤ a ∧ a < nP) ∧ (0 ≤ b ∧ b < n)) → zC1 8 m_X12_moveTo [zR 9 0, zI a, zI b] μ (fun y μ2 => (-1000000001 : Int) = y ∧ zRel μ2) := by
    intro q
    refine k_X12_moveTo 7 a b μ _ (s_isPerson 6 a μ hP2 hp5 _ (fun p h1 h2 => ⟨fun z => absurd z (by decide), fun _ => s_isRoom 6 b μ hHm _ (fun t h3 h4 => absurd q (by omega)) (fun _ => ⟨fun z => absurd rfl z, fun _ => ⟨rfl, hR⟩⟩)⟩) (fun _ => ⟨fun _ => ⟨rfl, hR⟩, fun z => absurd rfl z⟩))
  refine k_X11_moveTo 7 a b μ _ (s_hasPerson _ 0 a μ _ (fun q1 q2 => ?_) (fun q => ?_))
  · rw [hP1] at q2
    refine ⟨fun z => absurd z (by decide), fun _ => s_hasRoom _ 0 b μ _ (fun q3 q4 => ?_) (fun q => ?_)⟩
    · rw [hHc.1] at q4
      obtain ⟨p, rfl⟩ := Int.eq_ofNat_of_zero_le q1
      obtain ⟨r, rfl⟩ := Int.eq_ofNat_of_zero_le q3
      have hp : p < nP := by omega
      have hr : r < n := by omega
      obtain ⟨w, u, g, v1, v2, v3, v4, v5, v6⟩ := hD.1.2.2.2.2.2 p hp
      obtain ⟨l1, l2, l3⟩ := hC.1.2.2.2.2.1 p hp
      have hBw := (hHc.2.2.1 w v4).2.2
      obtain ⟨gr1, gr2, gr3⟩ := hHc.2.2.1 r hr
      -- the model, from any memory that tells the same
      have mod : ∀ ν, zHO ν n B nP nW → zMS ν nP S M N PS c → ∀ K : Int → zM → Prop, (∀ m i : Nat, i + m = B r → w ≠ r → zfro (fun b => decide (zrS (ν 11 0) (ν 12 0) S r b = zrS (ν 11 0) (ν 12 0) S w u)) (B r) 0 = zfro (fun b => decide (zrS (ν 11 0) (ν 12 0) S r b = zrS (ν 11 0) (ν 12 0) S w u)) m i → zJ 8 m_X12_moveTo 45 [some (zR 9 0), some (zI (p : Int)), some (zI (r : Int)), some (zI (zrS (ν 11 0) (ν 12 0) S w u)), some (zI (i : Int))] ν (zQ1 K)) → (w = r → K (-1000000003) ν) → zC1 8 m_X12_moveTo [zR 9 0, zI (p : Int), zI (r : Int)] ν K := by
        intro ν hOν hMν K h1 h2
        have e1 := (hMν.1.2.2.2.2.1 p hp).1
        have e2 := (hMν.1.2.2.2.2.1 p hp).2.1
        rw [Nat.zero_add] at e1 e2
        refine k_X12_moveTo 7 p r ν K (s_isPerson 6 p ν hOν.1.2.2.2.2.2.2.2.1.2.1 hp5 _ (fun _ _ _ => ⟨fun z => absurd z (by decide), fun _ => s_isRoom 6 r ν hOν.1.2.1 _ (fun _ _ _ => ⟨fun _ => ?_, fun z => absurd (show (1 : Int) ≠ 0 by decide) z⟩) (fun q => absurd q (by omega))⟩) (fun q => absurd q (by omega)))
        rw [z_i (c := 6) (m := 6 + p) (by omega) (by omega), z_i (c := 11) (m := 11 + p) (by omega) (by omega), Int.toNat_natCast, Int.toNat_natCast, e1, e2, v1, v2]
        refine ⟨⟨by omega, by omega⟩, ⟨by omega, by omega⟩, s_mreads 5 w u (by omega) (by omega) ν (zLN_lm hD.1 hMν.1) _ ?_⟩
        rw [rM_S hOν.1 hMν.1]
        by_cases q : w = r
        · refine k_X12_moveTo_45 7 p r _ 0 ν K ?_
          rw [z_i (c := 4) (m := 4 + r) (by omega) (by omega), z_i (c := 6) (m := 6 + p) (by omega) (by omega), Int.toNat_natCast, Int.toNat_natCast, e1, v1, (hOν.1.2.1.2.2.1 r hr).1]
          exact ⟨⟨by omega, by omega⟩, fun _ => h2 q, fun _ => ⟨⟨by omega, by omega⟩, fun _ => h2 q, fun z => absurd (by omega) z⟩⟩
        · exact h1 (B r) 0 (by omega) q rfl
      refine ⟨fun _ => s_roomOf 6 0 p (by omega) μ _ ?_, fun z => absurd (show (1 : Int) ≠ 0 by decide) z⟩
      rw [l1, v1]
      refine ⟨fun q => s_readBy 4 0 p w u (by omega) μ hLc (by rw [l1, v1]) (by rw [l2, v2]) (by omega) (by omega) _ (s_firstThatReads 4 0 r _ μ hHc hr hLc _ ?_), fun q => ⟨fun z => absurd rfl z, fun _ => ?_⟩⟩
      · have hwr : w ≠ r := by omega
        rw [rC_S hC.1]
        by_cases hf : zfro (fun b => decide (zrS (μ 11 0) (μ 12 0) S r b = zrS (μ 11 0) (μ 12 0) S w u)) (B r) 0 < B r
        · rw [if_pos hf]
          refine ⟨fun _ => s_cadd 4 μ hp5 hC _ (fun μ1 c1 f1 => ?_), fun z => absurd (show ((zfro (fun b => decide (zrS (μ 11 0) (μ 12 0) S r b = zrS (μ 11 0) (μ 12 0) S w u)) (B r) 0 : Nat) : Int) ≠ -1 by omega) z⟩
          generalize hx : zfro (fun b => decide (zrS (μ 11 0) (μ 12 0) S r b = zrS (μ 11 0) (μ 12 0) S w u)) (B r) 0 = x at hf ⊢
          refine k_X3_setPlace 6 0 p r x μ1 _ (s_put_16 6 0 p (by omega) _ μ1 _ (s_put_17 6 0 p (by omega) _ _ _ ?_))
          have c2 := zCS_u hp5 (zCS_u hp5 c1 16 4 p (r : Int) (by omega) (by omega) rfl) 17 5 p (x : Int) (by omega) (by omega) rfl
          have f2 := zfC_u (zfC_u f1 16 p (r : Int) (by omega) (by omega)) 17 p (x : Int) (by omega) (by omega)
          have o2 := zOK_45 hD.1 (p := p) hr hf
          have hO2 := zHO_C f2 hO
          have hM2 := zMS_C hp5 f2 hM
          have er := zfC_r2 f2 S
          generalize zset (zset μ1 16 0 p (r : Int)) 17 0 p (x : Int) = ν at c2 f2 hO2 hM2 er ⊢
          refine mod ν hO2 hM2 _ (fun m0 i0 hi0 hw0 ha0 => ?_) (fun z => absurd z hwr)
          have L : ∀ m i : Nat, i + m = B r → zfro (fun b => decide (zrS (ν 11 0) (ν 12 0) S r b = zrS (ν 11 0) (ν 12 0) S w u)) m i = x → zJ 8 m_X12_moveTo 45 [some (zR 9 0), some (zI (p : Int)), some (zI (r : Int)), some (zI (zrS (ν 11 0) (ν 12 0) S w u)), some (zI (i : Int))] ν (zQ1 (fun y μ2 => (x : Int) = y ∧ zRel μ2)) := by
            intro m
            induction m with
            | zero =>
              intro i hi ha
              have : zfro (fun b => decide (zrS (ν 11 0) (ν 12 0) S r b = zrS (ν 11 0) (ν 12 0) S w u)) 0 i = i := rfl
              omega
            | succ m ih =>
              intro i hi ha
              have e1 := (hM2.1.2.2.2.2.1 p hp).1
              rw [Nat.zero_add] at e1
              refine k_X12_moveTo_45 7 p r _ i ν _ ?_
              rw [z_i (c := 4) (m := 4 + r) (by omega) (by omega), z_i (c := 6) (m := 6 + p) (by omega) (by omega), z_i (c := 11) (m := 11 + p) (by omega) (by omega), Int.toNat_natCast, Int.toNat_natCast, Int.toNat_natCast, e1, v1, (hO2.1.2.1.2.2.1 r hr).1]
              refine ⟨⟨by omega, by omega⟩, fun q => absurd q (by omega), fun _ => ⟨⟨by omega, by omega⟩, fun z => absurd z (by omega), fun _ => s_mreads 5 r i (by omega) (by omega) ν (zLN_lm hD.1 hM2.1) _ ?_⟩⟩
              rw [rM_S hO2.1 hM2.1, z_fix (show (-2147483648 : Int) ≤ (i : Int) + 1 by omega) (by omega)]
              rw [zfro_s] at ha
              refine ⟨fun q2 => ?_, fun q2 => s_mrem 6 ν hp5 hC.2.1.2.2.2.1 hM2 _ (fun μ3 m3 f3 => ?_)⟩
              · rw [if_neg (by simpa using q2)] at ha
                exact ih (i + 1) (by omega) ha
              · rw [if_pos (by simpa using q2)] at ha
                subst ha
                have m4 := zMS_u hp5 (zMS_u hp5 m3 4 p (r : Int) (by omega) (by omega) (by rw [if_neg (by omega)]; omega)) 5 p (i : Int) (by omega) (by omega) (by rw [if_neg (by omega)]; omega)
                rw [show zcell 4 + p = 6 + p from rfl, show zcell 5 + p = 11 + p from rfl] at m4
                have f4 := zfM_u (zfM_u f3 (6 + p) (r : Int)) (11 + p) (i : Int)
                exact ⟨⟨by omega, by omega⟩, ⟨by omega, by omega⟩, rfl, zRel_of (zHO_M f4 hO2) (zCS_M hp5 f4 c2) m4 (zDO_k hD o2 (by rw [zuS_o (by omega), zuS_o (by omega)]))⟩
          refine L m0 i0 hi0 ?_
          rw [← ha0, er, er] at *
          exact hx
        · rw [if_neg hf]
          refine ⟨fun z => absurd rfl z, fun _ => mod μ hO hM _ (fun m0 i0 hi0 hw0 ha0 => ?_) (fun z => absurd z hwr)⟩
          have L : ∀ m i : Nat, i + m = B r → ¬ zfro (fun b => decide (zrS (μ 11 0) (μ 12 0) S r b = zrS (μ 11 0) (μ 12 0) S w u)) m i < B r → zJ 8 m_X12_moveTo 45 [some (zR 9 0), some (zI (p : Int)), some (zI (r : Int)), some (zI (zrS (μ 11 0) (μ 12 0) S w u)), some (zI (i : Int))] μ (zQ1 (fun y μ2 => (-1000000003 : Int) = y ∧ zRel μ2)) := by
            intro m
            induction m with
            | zero =>
              intro i hi ha
              refine k_X12_moveTo_45 7 p r _ i μ _ ?_
              rw [z_i (c := 4) (m := 4 + r) (by omega) (by omega), Int.toNat_natCast, (hHm.2.2.1 r hr).1]
              exact ⟨⟨by omega, by omega⟩, fun _ => ⟨rfl, hR⟩, fun z => absurd z (by omega)⟩
            | succ m ih =>
              intro i hi ha
              have e1 := (hM.1.2.2.2.2.1 p hp).1
              rw [Nat.zero_add] at e1
              refine k_X12_moveTo_45 7 p r _ i μ _ ?_
              rw [z_i (c := 4) (m := 4 + r) (by omega) (by omega), z_i (c := 6) (m := 6 + p) (by omega) (by omega), Int.toNat_natCast, Int.toNat_natCast, e1, v1, (hHm.2.2.1 r hr).1]
              refine ⟨⟨by omega, by omega⟩, fun q => absurd q (by omega), fun _ => ⟨⟨by omega, by omega⟩, fun z => absurd z (by omega), fun _ => s_mreads 5 r i (by omega) (by omega) μ (zLN_lm hD.1 hM.1) _ ?_⟩⟩
              rw [rM_S hO.1 hM.1, z_fix (show (-2147483648 : Int) ≤ (i : Int) + 1 by omega) (by omega)]
              rw [zfro_s] at ha
              refine ⟨fun q2 => ?_, fun q2 => ?_⟩
              · rw [if_neg (by simpa using q2)] at ha
                exact ih (i + 1) (by omega) ha
              · rw [if_pos (by simpa using q2)] at ha
                exact absurd (show i < B r by omega) ha
          refine L m0 i0 hi0 ?_
          rw [← ha0]; exact hf
      · exact mod μ hO hM _ (fun m0 i0 hi0 hw0 ha0 => absurd (by omega) hw0) (fun _ => ⟨rfl, hR⟩)
    · rw [hHc.1] at q
      exact ⟨fun z => absurd rfl z, fun _ => no (by omega)⟩
  · rw [hP1] at q
    exact ⟨fun _ => no (by omega), fun z => absurd rfl z⟩
