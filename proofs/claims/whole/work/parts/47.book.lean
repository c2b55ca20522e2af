/-! LOGGED, WRITE, JUDGE, both sides -/
theorem q_logged (μ : zM) (hR : zRel μ) (i w : Int) : zAsk m_X11_logged m_X12_logged [zI i, zI w] μ := by
  have hR0 := hR
  obtain ⟨n, B, nP, nW, r1, ⟨⟨-, -, ⟨M, m1, m2, m3, m4⟩, -⟩, r3⟩, -⟩ := hR
  rw [Nat.zero_add] at m3
  have hz : zmi M 20 ≤ 20 ∧ zmi M 20 ≤ M := by unfold zmi; split <;> omega
  have out : ¬ (0 ≤ w ∧ w ≤ 2) → zC1 8 m_X12_logged [zR 9 0, zI i, zI w] μ (fun y μ2 => (-1000000002 : Int) = y ∧ zRel μ2) := fun q => k_X12_logged 7 i w μ _ (s_in _ _ _ _ _ _ (fun _ _ => absurd q (by omega)) (fun _ => ⟨fun z => absurd rfl z, fun _ => ⟨rfl, hR0⟩⟩))
  refine k_X11_logged 7 i w μ _ (s_beyond _ w 2 μ _ (fun q1 q2 => ⟨fun _ => k_X3_loggedNow 6 0 μ _ ?_, fun z => absurd rfl z⟩) (fun q => ⟨fun z => absurd z (by decide), fun _ => out q⟩))
  rw [m1, zmi_min, z_fix (by omega) (by omega)]
  refine s_beyond _ i _ μ _ (fun q3 q4 => ⟨fun _ => k_X3_meeting 6 0 i w μ _ ?_, fun z => absurd rfl z⟩) (fun q => ⟨fun z => absurd z (by decide), fun _ => ?_⟩)
  · obtain ⟨k, rfl⟩ := Int.eq_ofNat_of_zero_le q3
    rw [m1, z_fix (show (-2147483648 : Int) ≤ (M : Int) - 1 by omega) (by omega), z_fix (by omega) (by omega), show (M : Int) - 1 - (k : Int) = ((M - 1 - k : Nat) : Int) by omega]
    refine s_leftOver 6 (M - 1 - k) 20 (by omega) μ _ (s_at_19 6 0 _ (Nat.mod_lt _ (by omega)) μ _ ?_)
    have hc := (m4 (zmi M 20 - 1 - k) (by omega)).1
    rw [show M - zmi M 20 + (zmi M 20 - 1 - k) = M - 1 - k by omega] at hc
    generalize μ 19 0 ((M - 1 - k) % 20) = E at hc ⊢
    have fin : ∀ x : Int, (w = 0 → x = w32 (Int.tdiv E 100)) → (w = 1 → x = Int.tmod (w32 (Int.tdiv E 10)) 10) → (w = 2 → x = Int.tmod E 10) → zC1 8 m_X12_logged [zR 9 0, zI (k : Int), zI w] μ (fun y μ2 => x = y ∧ zRel μ2) := by
      intro x h0 h1 h2
      refine k_X12_logged 7 k w μ _ (s_in _ _ _ _ _ _ (fun _ _ => ⟨fun _ => ⟨by omega, ?_⟩, fun z => absurd (show (1 : Int) ≠ 0 by decide) z⟩) (fun q => absurd q (by omega)))
      rw [m3, z_fix (show (-2147483648 : Int) ≤ ((zmi M 20 : Nat) : Int) - 1 by omega) (by omega)]
      refine s_in _ _ _ _ _ _ (fun _ _ => ⟨fun _ => ⟨by omega, ?_⟩, fun z => absurd (show (1 : Int) ≠ 0 by decide) z⟩) (fun q => absurd q (by omega))
      rw [m3, z_fix (show (-2147483648 : Int) ≤ 24 + ((zmi M 20 : Nat) : Int) by omega) (by omega), z_fix (show (-2147483648 : Int) ≤ 24 + ((zmi M 20 : Nat) : Int) - 1 by omega) (by omega), z_fix (by omega) (by omega), show (24 + ((zmi M 20 : Nat) : Int) - 1 - (k : Int)) = ((0 + 24 + (zmi M 20 - 1 - k) : Nat) : Int) by omega, Int.toNat_natCast, hc]
      exact ⟨⟨by omega, by omega⟩, fun a0 => ⟨fun a1 => ⟨by decide, h2 (by omega), hR0⟩, fun a1 => ⟨by decide, by decide, h1 (by omega), hR0⟩⟩, fun a0 => ⟨by decide, h0 (by omega), hR0⟩⟩
    exact ⟨fun a0 => ⟨fun a1 => ⟨by decide, fin _ (by omega) (by omega) (fun _ => rfl)⟩, fun a1 => ⟨by decide, by decide, fin _ (by omega) (fun _ => rfl) (by omega)⟩⟩, fun a0 => ⟨by decide, fin _ (fun _ => rfl) (by omega) (by omega)⟩⟩
  · refine k_X12_logged 7 i w μ _ (s_in _ _ _ _ _ _ (fun _ _ => ⟨fun _ => ⟨by omega, ?_⟩, fun z => absurd (show (1 : Int) ≠ 0 by decide) z⟩) (fun q => absurd q (by omega)))
    rw [m3, z_fix (show (-2147483648 : Int) ≤ ((zmi M 20 : Nat) : Int) - 1 by omega) (by omega)]
    exact s_in _ _ _ _ _ _ (fun _ _ => absurd q (by omega)) (fun _ => ⟨fun z => absurd rfl z, fun _ => ⟨rfl, hR0⟩⟩)
theorem s_cwrite (a b x : Int) (μ : zM) {N : Nat} (e : μ 7 0 8 = (N : Int)) (hN : N < 20) (K : Int → zM → Prop) (h : K 1 (zset (zset (zset (zset μ 26 0 N a) 27 0 N b) 28 0 N x) 7 0 8 ((N + 1 : Nat) : Int))) : zC1 7 m_X10_addEntry [zR 7 0, zI a, zI b, zI x] μ K := by
  refine k_X10_addEntry 6 a b x μ K ?_
  rw [e]
  refine ⟨fun _ => s_put_26 6 N hN a μ _ ?_, fun q => absurd q (by omega)⟩
  rw [show (zset μ 26 0 N a) 7 0 8 = (N : Int) from e]
  refine s_put_27 6 N hN b _ _ ?_
  rw [show (zset (zset μ 26 0 N a) 27 0 N b) 7 0 8 = (N : Int) from e]
  refine s_put_28 6 N hN x _ _ ⟨Or.inr rfl, ?_⟩
  rw [show (zset (zset (zset μ 26 0 N a) 27 0 N b) 28 0 N x) 7 0 8 = (N : Int) from e, z_fix (by omega) (by omega)]
  exact h
theorem s_mwrite (r c : Nat) (x : Int) (hx : 0 ≤ x ∧ x ≤ 9) (μ : zM) {n : Nat} {B : Nat → Nat} (hM : zHm μ n B) (hr : r < n) (hc : c < B r) {N : Nat} (e : μ 9 0 15 = (N : Int)) (hN : N < 20) (K : Int → zM → Prop) (h : K ((N + 1 : Nat) : Int) (zset (zset (zset (zset μ 40 0 (3 * N) r) 40 0 (3 * N + 1) c) 40 0 (3 * N + 2) x) 9 0 15 ((N + 1 : Nat) : Int))) : zC1 8 m_X12_write [zR 9 0, zI (r : Int), zI (c : Int), zI x] μ K := by
  refine k_X12_write 7 r c x μ K (s_isBar 5 r c μ hM _ (fun _ _ _ _ _ _ => ⟨fun _ => s_in _ _ _ _ _ _ (fun _ _ => ⟨fun _ => ?_, fun z => absurd (show (1 : Int) ≠ 0 by decide) z⟩) (fun q => absurd q (by omega)), fun z => absurd (show (1 : Int) ≠ 0 by decide) z⟩) (fun q => absurd ⟨r, c, rfl, rfl, hr, hc⟩ q))
  have e1 : w32 (3 * (N : Int)) = ((3 * N : Nat) : Int) := by rw [z_fix (by omega) (by omega)]; omega
  have e2 : w32 (((3 * N : Nat) : Int) + 1) = ((3 * N + 1 : Nat) : Int) := by rw [z_fix (by omega) (by omega)]; omega
  have e3 : w32 (((3 * N : Nat) : Int) + 2) = ((3 * N + 2 : Nat) : Int) := by rw [z_fix (by omega) (by omega)]; omega
  rw [e, e1, Int.toNat_natCast, show (zset μ 40 0 (3 * N) r) 9 0 15 = (N : Int) from e, e1, e2, Int.toNat_natCast, show (zset (zset μ 40 0 (3 * N) r) 40 0 (3 * N + 1) c) 9 0 15 = (N : Int) from e, e1, e3, Int.toNat_natCast, show (zset (zset (zset μ 40 0 (3 * N) r) 40 0 (3 * N + 1) c) 40 0 (3 * N + 2) x) 9 0 15 = (N : Int) from e, z_fix (by omega) (by omega)]
  exact ⟨fun _ => ⟨⟨by omega, by omega⟩, ⟨by omega, by omega⟩, ⟨by omega, by omega⟩, h⟩, fun q => absurd q (by omega)⟩
theorem q_write (μ : zM) (hR : zRel μ) (a b x : Int) : zAsk m_X11_write m_X12_write [zI a, zI b, zI x] μ := by
  have hR0 := hR
  obtain ⟨n, B, nP, nW, r1, ⟨r2, r3⟩, r4, r5, r6, r7, r8, ⟨N, b1, b2, b3, b4⟩⟩ := hR
  have hC := r1.1
  have hM := r1.2.1
  have hp5 := r1.2.2.2.2.2.2.2.1.2.2.1
  refine k_X11_write 7 a b x μ _ (s_hasBar 5 a b μ hC _ (fun r c hr hc hrn hcn => ⟨fun _ => s_beyond _ x 9 μ _ (fun q1 q2 => ⟨fun _ => ?_, fun z => absurd rfl z⟩) (fun q => ⟨fun z => absurd z (by decide), fun _ => ?_⟩), fun z => absurd (show (1 : Int) ≠ 0 by decide) z⟩) (fun q => ⟨fun z => absurd rfl z, fun _ => ?_⟩))
  · subst hr; subst hc
    by_cases hN : N < 20
    · refine s_cwrite r c x μ b1 hN _ ⟨fun z => absurd z (by decide), fun _ => k_X10_entries 7 _ _ ?_⟩
      refine s_mwrite r c x ⟨q1, q2⟩ _ (n := n) (B := B) (N := N) ?_ hrn hcn ?_ hN _ ?_
      · refine zHm_cg ?_ hM
        intros; repeat rw [zo (by omega)]
      · exact b2
      obtain ⟨y, rfl⟩ := Int.eq_ofNat_of_zero_le q1
      refine ⟨rfl, n, B, nP, nW, zHs_cg ?_ ?_ r1, ⟨zLR_cg hp5 ?_ ?_ r2, r3⟩, zTx_cg ?_ ?_ ?_ ?_ ?_ ?_ r4, zPs_cg hp5 ?_ ?_ ?_ ?_ r5, zIm_cg hp5 ?_ ?_ ?_ ?_ ?_ r6, zCh_cg ?_ ?_ r7, zSg_cg ?_ ?_ ?_ r8, ⟨N + 1, rfl, rfl, by omega, fun k hk => ?kk⟩⟩
      case kk =>
        show ∃ r' b' x' : Nat, ((if 26 = 26 ∧ 0 = 0 ∧ k = N then (r : Int) else μ 26 0 k) = (r' : Int) ∧ (if 27 = 27 ∧ 0 = 0 ∧ k = N then (c : Int) else μ 27 0 k) = (b' : Int) ∧ (if 28 = 28 ∧ 0 = 0 ∧ k = N then (y : Int) else μ 28 0 k) = (x' : Int)) ∧ ((if 40 = 40 ∧ 0 = 0 ∧ 3 * k = 3 * N + 2 then (y : Int) else if 40 = 40 ∧ 0 = 0 ∧ 3 * k = 3 * N + 1 then (c : Int) else if 40 = 40 ∧ 0 = 0 ∧ 3 * k = 3 * N then (r : Int) else μ 40 0 (3 * k)) = (r' : Int) ∧ (if 40 = 40 ∧ 0 = 0 ∧ 3 * k + 1 = 3 * N + 2 then (y : Int) else if 40 = 40 ∧ 0 = 0 ∧ 3 * k + 1 = 3 * N + 1 then (c : Int) else if 40 = 40 ∧ 0 = 0 ∧ 3 * k + 1 = 3 * N then (r : Int) else μ 40 0 (3 * k + 1)) = (b' : Int) ∧ (if 40 = 40 ∧ 0 = 0 ∧ 3 * k + 2 = 3 * N + 2 then (y : Int) else if 40 = 40 ∧ 0 = 0 ∧ 3 * k + 2 = 3 * N + 1 then (c : Int) else if 40 = 40 ∧ 0 = 0 ∧ 3 * k + 2 = 3 * N then (r : Int) else μ 40 0 (3 * k + 2)) = (x' : Int)) ∧ r' < n ∧ b' < B r' ∧ x' < 10
        by_cases hk2 : k = N
        · refine ⟨r, c, y, ⟨if_pos ⟨rfl, rfl, hk2⟩, if_pos ⟨rfl, rfl, hk2⟩, if_pos ⟨rfl, rfl, hk2⟩⟩, ⟨?_, ?_, ?_⟩, hrn, hcn, by omega⟩
          · rw [if_neg (by omega), if_neg (by omega), if_pos (by omega)]
          · rw [if_neg (by omega), if_pos (by omega)]
          · rw [if_pos (by omega)]
        · rw [if_neg (by omega), if_neg (by omega), if_neg (by omega), if_neg (by omega), if_neg (by omega), if_neg (by omega), if_neg (by omega), if_neg (by omega), if_neg (by omega), if_neg (by omega), if_neg (by omega), if_neg (by omega)]
          exact b4 k (by omega)
      all_goals intros; repeat rw [zo (by omega)]
    · have hN2 : N = 20 := by omega
      subst hN2
      refine k_X10_addEntry 6 r c x μ _ ⟨fun q => absurd q (by omega), fun _ => ⟨Or.inl rfl, fun _ => ?_, fun z => absurd rfl z⟩⟩
      exact k_X12_write 7 r c x μ _ (s_isBar 5 r c μ hM _ (fun _ _ _ _ _ _ => ⟨fun _ => s_in _ _ _ _ _ _ (fun _ _ => ⟨fun _ => ⟨fun q => absurd (show μ 9 0 15 = 20 from b2) q, fun _ => ⟨rfl, hR0⟩⟩, fun z => absurd (show (1 : Int) ≠ 0 by decide) z⟩) (fun q => absurd q (by omega)), fun z => absurd (show (1 : Int) ≠ 0 by decide) z⟩) (fun q => absurd ⟨r, c, rfl, rfl, hrn, hcn⟩ q))
  · subst hr; subst hc
    exact k_X12_write 7 r c x μ _ (s_isBar 5 r c μ hM _ (fun _ _ _ _ _ _ => ⟨fun _ => s_in _ _ _ _ _ _ (fun _ _ => absurd q (by omega)) (fun _ => ⟨fun z => absurd rfl z, fun _ => ⟨rfl, hR0⟩⟩), fun z => absurd (show (1 : Int) ≠ 0 by decide) z⟩) (fun q => absurd ⟨r, c, rfl, rfl, hrn, hcn⟩ q))
  · exact k_X12_write 7 a b x μ _ (s_isBar 5 a b μ hM _ (fun r c h1 h2 h3 h4 => absurd ⟨r, c, h1, h2, h3, h4⟩ q) (fun _ => ⟨fun z => absurd rfl z, fun _ => ⟨rfl, hR0⟩⟩))
def zwrg (f : Nat → Nat → Int) (R P S : Nat → Int) (k : Nat) : Bool := decide (f (R k).toNat (P k).toNat ≠ S k)
def zjd (g : Nat → Bool) (N : Nat) : Int := if zfro g N 0 < N then (zfro g N 0 : Int) else -1
theorem s_cjudge (μ : zM) (hL : zLc μ 0) {N : Nat} (hN : N ≤ 20) (e : μ 7 0 8 = (N : Int)) (hP : ∀ k, k < N → ∃ r b : Nat, μ 26 0 k = (r : Int) ∧ μ 27 0 k = (b : Int) ∧ r < 6 ∧ b < 12) (K : Int → zM → Prop) (h : K (zjd (zwrg (rC μ 0) (μ 26 0) (μ 27 0) (μ 28 0)) N) μ) : zC1 7 m_X10_firstWrong [zR 7 0, zR 4 0] μ K := by
  refine k_X10_firstWrong 6 0 μ K ?_
  have L : ∀ m i : Nat, i + m = N → zfro (zwrg (rC μ 0) (μ 26 0) (μ 27 0) (μ 28 0)) N 0 = zfro (zwrg (rC μ 0) (μ 26 0) (μ 27 0) (μ 28 0)) m i → zJ 7 m_X10_firstWrong 2 [some (zR 7 0), some (zR 4 0), some (zI (i : Int)), none] μ (zQ1 K) := by
    intro m
    induction m with
    | zero =>
      intro i hi ha
      refine k_X10_firstWrong_2 6 0 i μ K ⟨fun _ => ?_, fun q => absurd q (by omega)⟩
      unfold zjd at h
      have e0 : zfro (zwrg (rC μ 0) (μ 26 0) (μ 27 0) (μ 28 0)) 0 i = N := by unfold zfro; omega
      rw [ha, e0, if_neg (by omega)] at h
      exact h
    | succ m ih =>
      intro i hi ha
      obtain ⟨r, b, v1, v2, v3, v4⟩ := hP i (by omega)
      rw [zfro_s] at ha
      have ev : zwrg (rC μ 0) (μ 26 0) (μ 27 0) (μ 28 0) i = decide (rC μ 0 r b ≠ μ 28 0 i) := by
        unfold zwrg
        rw [v1, v2, Int.toNat_natCast, Int.toNat_natCast]
      rw [ev] at ha
      refine k_X10_firstWrong_2 6 0 i μ K ⟨fun q => absurd q (by omega), fun _ => s_at_26 6 i (by omega) μ _ ?_⟩
      rw [v1]
      refine s_at_27 6 i (by omega) μ _ ?_
      rw [v2]
      refine s_reads 4 0 r b v3 v4 μ hL _ (s_at_28 6 i (by omega) μ _ ?_)
      rw [z_fix (by omega) (by omega)]
      refine ⟨fun q => ?_, fun q => ?_⟩
      · rw [if_neg (by simp [q])] at ha
        exact ih (i + 1) (by omega) ha
      · rw [if_pos (by simpa using q)] at ha
        unfold zjd at h
        rw [ha, if_pos (by omega)] at h
        exact h
  exact L N 0 (by omega) rfl
theorem s_mjudge (μ : zM) (hL : zLm μ 0) {N : Nat} (hN : N ≤ 20) (e : μ 9 0 15 = (N : Int)) (hP : ∀ k, k < N → ∃ r b : Nat, μ 40 0 (3 * k) = (r : Int) ∧ μ 40 0 (3 * k + 1) = (b : Int) ∧ r < 6 ∧ b < 12) (K : Int → zM → Prop) (h : K (zjd (zwrg (rM μ 0) (fun k => μ 40 0 (3 * k)) (fun k => μ 40 0 (3 * k + 1)) (fun k => μ 40 0 (3 * k + 2))) N) μ) : zC1 8 m_X12_judge [zR 9 0] μ K := by
  refine k_X12_judge 7 μ K ?_
  have L : ∀ m i : Nat, i + m = N → zfro (zwrg (rM μ 0) (fun k => μ 40 0 (3 * k)) (fun k => μ 40 0 (3 * k + 1)) (fun k => μ 40 0 (3 * k + 2))) N 0 = zfro (zwrg (rM μ 0) (fun k => μ 40 0 (3 * k)) (fun k => μ 40 0 (3 * k + 1)) (fun k => μ 40 0 (3 * k + 2))) m i → zJ 8 m_X12_judge 2 [some (zR 9 0), some (zI (i : Int))] μ (zQ1 K) := by
    intro m
    induction m with
    | zero =>
      intro i hi ha
      refine k_X12_judge_2 7 i μ K ⟨fun _ => ?_, fun q => absurd q (by omega)⟩
      unfold zjd at h
      have e0 : zfro (zwrg (rM μ 0) (fun k => μ 40 0 (3 * k)) (fun k => μ 40 0 (3 * k + 1)) (fun k => μ 40 0 (3 * k + 2))) 0 i = N := by unfold zfro; omega
      rw [ha, e0, if_neg (by omega)] at h
      exact h
    | succ m ih =>
      intro i hi ha
      obtain ⟨r, b, v1, v2, v3, v4⟩ := hP i (by omega)
      rw [zfro_s] at ha
      have ev : zwrg (rM μ 0) (fun k => μ 40 0 (3 * k)) (fun k => μ 40 0 (3 * k + 1)) (fun k => μ 40 0 (3 * k + 2)) i = decide (rM μ 0 r b ≠ μ 40 0 (3 * i + 2)) := by
        show decide (rM μ 0 (μ 40 0 (3 * i)).toNat (μ 40 0 (3 * i + 1)).toNat ≠ μ 40 0 (3 * i + 2)) = _
        rw [v1, v2, Int.toNat_natCast, Int.toNat_natCast]
      rw [ev] at ha
      have e1 : w32 (3 * (i : Int)) = ((3 * i : Nat) : Int) := by rw [z_fix (by omega) (by omega)]; omega
      have e2 : w32 (((3 * i : Nat) : Int) + 1) = ((3 * i + 1 : Nat) : Int) := by rw [z_fix (by omega) (by omega)]; omega
      have e3 : w32 (((3 * i : Nat) : Int) + 2) = ((3 * i + 2 : Nat) : Int) := by rw [z_fix (by omega) (by omega)]; omega
      refine k_X12_judge_2 7 i μ K ⟨fun q => absurd q (by omega), fun _ => ?_⟩
      rw [e1, e2, e3, Int.toNat_natCast, Int.toNat_natCast, Int.toNat_natCast, v1, v2]
      refine ⟨⟨by omega, by omega⟩, ⟨by omega, by omega⟩, s_mreads 5 r b v3 v4 μ hL _ ⟨⟨by omega, by omega⟩, ?_⟩⟩
      rw [z_fix (by omega) (by omega)]
      refine ⟨fun q => ?_, fun q => ?_⟩
      · rw [if_neg (by simp [q])] at ha
        exact ih (i + 1) (by omega) ha
      · rw [if_pos (by simpa using q)] at ha
        unfold zjd at h
        rw [ha, if_pos (by omega)] at h
        exact h
  exact L N 0 (by omega) rfl
theorem q_judge (μ : zM) (hR : zRel μ) : zAsk m_X11_judge m_X12_judge [] μ := by
  have hR0 := hR
  obtain ⟨n, B, nP, nW, r1, ⟨r2, r3⟩, r4, r5, r6, r7, r8, ⟨N, b1, b2, b3, b4⟩⟩ := hR
  have hC := r1.1
  have hn := hC.2.1
  have he : rM μ 0 = rC μ 0 := zrd_eq r1 r2
  have hB : ∀ r, r < n → B r ≤ 12 := fun r hr => (hC.2.2.1 r hr).2.2
  have P1 : ∀ k, k < N → ∃ r b : Nat, μ 26 0 k = (r : Int) ∧ μ 27 0 k = (b : Int) ∧ r < 6 ∧ b < 12 := by
    intro k hk
    obtain ⟨r, b, x, ⟨v1, v2, v3⟩, -, v4, v5, -⟩ := b4 k hk
    have := hB r v4
    exact ⟨r, b, v1, v2, by omega, by omega⟩
  have P2 : ∀ k, k < N → ∃ r b : Nat, μ 40 0 (3 * k) = (r : Int) ∧ μ 40 0 (3 * k + 1) = (b : Int) ∧ r < 6 ∧ b < 12 := by
    intro k hk
    obtain ⟨r, b, x, -, ⟨v1, v2, v3⟩, v4, v5, -⟩ := b4 k hk
    have := hB r v4
    exact ⟨r, b, v1, v2, by omega, by omega⟩
  have ee : zjd (zwrg (rC μ 0) (μ 26 0) (μ 27 0) (μ 28 0)) N = zjd (zwrg (rM μ 0) (fun k => μ 40 0 (3 * k)) (fun k => μ 40 0 (3 * k + 1)) (fun k => μ 40 0 (3 * k + 2))) N := by
    unfold zjd
    rw [zfro_ext (f := zwrg (rC μ 0) (μ 26 0) (μ 27 0) (μ 28 0)) (g := zwrg (rM μ 0) (fun k => μ 40 0 (3 * k)) (fun k => μ 40 0 (3 * k + 1)) (fun k => μ 40 0 (3 * k + 2))) (m := N) (i := 0) fun k _ hk => ?_]
    obtain ⟨r, b, x, ⟨v1, v2, v3⟩, ⟨v4, v5, v6⟩, -⟩ := b4 k (by omega)
    show decide (rC μ 0 (μ 26 0 k).toNat (μ 27 0 k).toNat ≠ μ 28 0 k) = decide (rM μ 0 (μ 40 0 (3 * k)).toNat (μ 40 0 (3 * k + 1)).toNat ≠ μ 40 0 (3 * k + 2))
    rw [v1, v2, v3, v4, v5, v6, he]
  exact k_X11_judge 7 μ _ (s_cjudge μ (zLR_c r2) b3 b1 P1 _ (s_mjudge μ (zLR_m r2) b3 b2 P2 _ ⟨ee, hR0⟩))
