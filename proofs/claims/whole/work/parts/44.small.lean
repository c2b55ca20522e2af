/-! FEED, SEE, WRITE, JUDGE, TEAR, SEED, both sides -/
theorem zo {μ : zM} {t i k : Nat} {v : Int} {t' i' k' : Nat} (h : t' ≠ t ∨ i' ≠ i ∨ k' ≠ k) : zset μ t i k v t' i' k' = μ t' i' k' := by
  unfold zset
  rw [if_neg]
  rintro ⟨rfl, rfl, rfl⟩
  rcases h with h | h | h <;> exact h rfl
theorem s_cfeed (a : Int) (μ : zM) {L : Nat} (e : μ 2 0 2 = (L : Int)) (hL : L < 240) (K : Int → zM → Prop) (h : K 1 (zset (zset μ 20 0 L a) 2 0 2 ((L + 1 : Nat) : Int))) : zC1 7 m_X7_add [zR 2 0, zI a] μ K := by
  refine k_X7_add 6 a μ K ?_
  rw [e]
  refine ⟨fun _ => s_put_20 6 L hL a μ _ ⟨Or.inr rfl, ?_⟩, fun q => absurd q (by omega)⟩
  rw [show (zset μ 20 0 L a) 2 0 2 = (L : Int) from e, z_fix (by omega) (by omega)]
  exact h
theorem s_mfeed (a : Int) (ha : 0 ≤ a ∧ a ≤ 255) (μ : zM) {L : Nat} (e : μ 9 0 10 = (L : Int)) (hL : L < 240) (K : Int → zM → Prop) (h : K ((L + 1 : Nat) : Int) (zset (zset μ 38 0 L a) 9 0 10 ((L + 1 : Nat) : Int))) : zC1 8 m_X12_feed [zR 9 0, zI a] μ K := by
  refine k_X12_feed 7 a μ K (s_in _ _ _ _ _ _ (fun _ _ => ⟨fun _ => ?_, fun z => absurd (show (1 : Int) ≠ 0 by decide) z⟩) (fun q => absurd q (by omega)))
  rw [e, Int.toNat_natCast, show (zset μ 38 0 L a) 9 0 10 = (L : Int) from e, z_fix (by omega) (by omega)]
  exact ⟨fun _ => ⟨⟨by omega, by omega⟩, h⟩, fun q => absurd q (by omega)⟩
theorem q_feed (μ : zM) (hR : zRel μ) (a : Int) : zAsk m_X11_feed m_X12_feed [zI a] μ := by
  obtain ⟨n, B, nP, nW, r1, ⟨r2, r3⟩, ⟨L, t1, t2, t3, t4, t5⟩, r5, r6, r7, r8, r9⟩ := hR
  have hp5 := r1.2.2.2.2.2.2.2.1.2.2.1
  refine k_X11_feed 7 a μ _ (s_beyond _ a 255 μ _ (fun q1 q2 => ⟨fun _ => ?_, fun z => absurd rfl z⟩) (fun q => ⟨fun z => absurd z (by decide), fun _ => ?_⟩))
  · by_cases hL : L < 240
    · refine s_cfeed a μ t1 hL _ ⟨fun z => absurd z (by decide), fun _ => k_X7_letters 7 _ _ ?_⟩
      refine s_mfeed a ⟨q1, q2⟩ _ (L := L) ?_ hL _ ?_
      · exact t2
      refine ⟨rfl, n, B, nP, nW, zHs_cg ?_ ?_ r1, ⟨zLR_cg hp5 ?_ ?_ r2, r3⟩, ⟨L + 1, rfl, rfl, by omega, fun k hk => ?kk, t5⟩, zPs_cg hp5 ?_ ?_ ?_ ?_ r5, zIm_cg hp5 ?_ ?_ ?_ ?_ ?_ r6, zCh_cg ?_ ?_ r7, zSg_cg ?_ ?_ ?_ r8, zBk_cg ?_ ?_ ?_ r9⟩
      case kk =>
        show (if 38 = 38 ∧ 0 = 0 ∧ k = L then a else μ 38 0 k) = (if 20 = 20 ∧ 0 = 0 ∧ k = L then a else μ 20 0 k) ∧ 0 ≤ (if 20 = 20 ∧ 0 = 0 ∧ k = L then a else μ 20 0 k) ∧ (if 20 = 20 ∧ 0 = 0 ∧ k = L then a else μ 20 0 k) ≤ 255
        by_cases hk2 : k = L
        · rw [if_pos ⟨rfl, rfl, hk2⟩, if_pos ⟨rfl, rfl, hk2⟩]; omega
        · rw [if_neg (fun z => hk2 z.2.2), if_neg (fun z => hk2 z.2.2)]; exact t4 k (by omega)
      all_goals intros; repeat rw [zo (by omega)]
    · have hL2 : L = 240 := by omega
      subst hL2
      refine k_X7_add 6 a μ _ ⟨fun q => absurd q (by omega), fun _ => ⟨Or.inl rfl, fun _ => ?_, fun z => absurd rfl z⟩⟩
      refine k_X12_feed 7 a μ _ (s_in _ _ _ _ _ _ (fun _ _ => ⟨fun _ => ⟨fun q => absurd (show μ 9 0 10 = 240 from t2) q, fun _ => ⟨rfl, n, B, nP, nW, r1, ⟨r2, r3⟩, ⟨240, t1, t2, t3, t4, t5⟩, r5, r6, r7, r8, r9⟩⟩, fun z => absurd (show (1 : Int) ≠ 0 by decide) z⟩) (fun q => absurd q (by omega)))
  · exact k_X12_feed 7 a μ _ (s_in _ _ _ _ μ _ (fun _ _ => absurd q (by omega)) (fun _ => ⟨fun z => absurd rfl z, fun _ => ⟨rfl, n, B, nP, nW, r1, ⟨r2, r3⟩, ⟨L, t1, t2, t3, t4, t5⟩, r5, r6, r7, r8, r9⟩⟩))
theorem s_csee (a b : Int) (μ : zM) {N : Nat} (e : μ 7 0 7 = (N : Int)) (hN : N < 6) (K : Int → zM → Prop) (h : K 1 (zset (zset (zset μ 24 0 N a) 25 0 N b) 7 0 7 ((N + 1 : Nat) : Int))) : zC1 7 m_X10_addSeen [zR 7 0, zI a, zI b] μ K := by
  refine k_X10_addSeen 6 a b μ K ?_
  rw [e]
  refine ⟨fun _ => s_put_24 6 N hN a μ _ ?_, fun q => absurd q (by omega)⟩
  rw [show (zset μ 24 0 N a) 7 0 7 = (N : Int) from e]
  refine s_put_25 6 N hN b _ _ ⟨Or.inr rfl, ?_⟩
  rw [show (zset (zset μ 24 0 N a) 25 0 N b) 7 0 7 = (N : Int) from e, z_fix (by omega) (by omega)]
  exact h
theorem s_msee (a b : Int) (ha : 0 ≤ a ∧ a ≤ 11) (hb : 0 ≤ b ∧ b ≤ 9) (μ : zM) {N : Nat} (e : μ 9 0 13 = (N : Int)) (hN : N < 6) (K : Int → zM → Prop) (h : K ((N + 1 : Nat) : Int) (zset (zset (zset μ 39 0 (2 * N) a) 39 0 (2 * N + 1) b) 9 0 13 ((N + 1 : Nat) : Int))) : zC1 8 m_X12_see [zR 9 0, zI a, zI b] μ K := by
  refine k_X12_see 7 a b μ K (s_in _ _ _ _ _ _ (fun _ _ => ⟨fun z => absurd z (by decide), fun _ => s_in _ _ _ _ _ _ (fun _ _ => ⟨fun _ => ?_, fun z => absurd (show (1 : Int) ≠ 0 by decide) z⟩) (fun q => absurd q (by omega))⟩) (fun q => absurd q (by omega)))
  have e1 : w32 (2 * (N : Int)) = ((2 * N : Nat) : Int) := by rw [z_fix (by omega) (by omega)]; omega
  have e2 : w32 (((2 * N : Nat) : Int) + 1) = ((2 * N + 1 : Nat) : Int) := by rw [z_fix (by omega) (by omega)]; omega
  rw [e, e1, Int.toNat_natCast, show (zset μ 39 0 (2 * N) a) 9 0 13 = (N : Int) from e, e1, e2, Int.toNat_natCast, show (zset (zset μ 39 0 (2 * N) a) 39 0 (2 * N + 1) b) 9 0 13 = (N : Int) from e, z_fix (by omega) (by omega)]
  exact ⟨fun _ => ⟨⟨by omega, by omega⟩, ⟨by omega, by omega⟩, h⟩, fun q => absurd q (by omega)⟩
theorem q_see (μ : zM) (hR : zRel μ) (a b : Int) : zAsk m_X11_see m_X12_see [zI a, zI b] μ := by
  have hR0 := hR
  obtain ⟨n, B, nP, nW, r1, ⟨r2, r3⟩, r4, r5, r6, r7, ⟨N, s1, s2, s3, s4⟩, r9⟩ := hR
  have hp5 := r1.2.2.2.2.2.2.2.1.2.2.1
  have out : ¬ ((0 ≤ a ∧ a ≤ 11) ∧ (0 ≤ b ∧ b ≤ 9)) → zC1 8 m_X12_see [zR 9 0, zI a, zI b] μ (fun y μ2 => (-1000000002 : Int) = y ∧ zRel μ2) := by
    intro q
    exact k_X12_see 7 a b μ _ (s_in _ _ _ _ _ _ (fun _ _ => ⟨fun z => absurd z (by decide), fun _ => s_in _ _ _ _ _ _ (fun _ _ => absurd q (by omega)) (fun _ => ⟨fun z => absurd rfl z, fun _ => ⟨rfl, hR0⟩⟩)⟩) (fun _ => ⟨fun _ => ⟨rfl, hR0⟩, fun z => absurd rfl z⟩))
  refine k_X11_see 7 a b μ _ (s_beyond _ a 11 μ _ (fun q1 q2 => ⟨fun z => absurd rfl z, fun _ => s_beyond _ b 9 μ _ (fun q3 q4 => ⟨fun _ => ?_, fun z => absurd rfl z⟩) (fun q => ⟨fun z => absurd z (by decide), fun _ => out (by omega)⟩)⟩) (fun q => ⟨fun _ => out (by omega), fun z => absurd (show (1 : Int) ≠ 0 by decide) z⟩))
  by_cases hN : N < 6
  · refine s_csee a b μ s1 hN _ ⟨fun z => absurd z (by decide), fun _ => k_X10_seen 7 _ _ ?_⟩
    refine s_msee a b ⟨q1, q2⟩ ⟨q3, q4⟩ _ (N := N) ?_ hN _ ?_
    · exact s2
    refine ⟨rfl, n, B, nP, nW, zHs_cg ?_ ?_ r1, ⟨zLR_cg hp5 ?_ ?_ r2, r3⟩, zTx_cg ?_ ?_ ?_ ?_ ?_ ?_ r4, zPs_cg hp5 ?_ ?_ ?_ ?_ r5, zIm_cg hp5 ?_ ?_ ?_ ?_ ?_ r6, zCh_cg ?_ ?_ r7, ⟨N + 1, rfl, rfl, by omega, fun k hk => ?kk⟩, zBk_cg ?_ ?_ ?_ r9⟩
    case kk =>
      show ((if 39 = 39 ∧ 0 = 0 ∧ 2 * k = 2 * N + 1 then b else if 39 = 39 ∧ 0 = 0 ∧ 2 * k = 2 * N then a else μ 39 0 (2 * k)) = (if 24 = 24 ∧ 0 = 0 ∧ k = N then a else μ 24 0 k) ∧ 0 ≤ (if 24 = 24 ∧ 0 = 0 ∧ k = N then a else μ 24 0 k) ∧ (if 24 = 24 ∧ 0 = 0 ∧ k = N then a else μ 24 0 k) ≤ 11) ∧ ((if 39 = 39 ∧ 0 = 0 ∧ 2 * k + 1 = 2 * N + 1 then b else if 39 = 39 ∧ 0 = 0 ∧ 2 * k + 1 = 2 * N then a else μ 39 0 (2 * k + 1)) = (if 25 = 25 ∧ 0 = 0 ∧ k = N then b else μ 25 0 k) ∧ 0 ≤ (if 25 = 25 ∧ 0 = 0 ∧ k = N then b else μ 25 0 k) ∧ (if 25 = 25 ∧ 0 = 0 ∧ k = N then b else μ 25 0 k) ≤ 9)
      by_cases hk2 : k = N
      · rw [if_neg (by omega), if_pos ⟨rfl, rfl, by omega⟩, if_pos ⟨rfl, rfl, hk2⟩, if_pos ⟨rfl, rfl, by omega⟩, if_pos ⟨rfl, rfl, hk2⟩]; omega
      · rw [if_neg (by omega), if_neg (by omega), if_neg (by omega), if_neg (by omega), if_neg (by omega), if_neg (by omega)]; exact s4 k (by omega)
    all_goals intros; repeat rw [zo (by omega)]
  · have hN2 : N = 6 := by omega
    subst hN2
    refine k_X10_addSeen 6 a b μ _ ⟨fun q => absurd q (by omega), fun _ => ⟨Or.inl rfl, fun _ => ?_, fun z => absurd rfl z⟩⟩
    exact k_X12_see 7 a b μ _ (s_in _ _ _ _ _ _ (fun _ _ => ⟨fun z => absurd z (by decide), fun _ => s_in _ _ _ _ _ _ (fun _ _ => ⟨fun _ => ⟨fun q => absurd (show μ 9 0 13 = 6 from s2) q, fun _ => ⟨rfl, hR0⟩⟩, fun z => absurd (show (1 : Int) ≠ 0 by decide) z⟩) (fun q => absurd q (by omega))⟩) (fun q => absurd q (by omega)))
theorem q_tear (μ : zM) (hR : zRel μ) : zAsk m_X11_tear m_X12_tear [] μ := by
  obtain ⟨n, B, nP, nW, r1, ⟨r2, r3⟩, r4, r5, r6, r7, ⟨N, s1, s2, s3, s4⟩, ⟨M, b1, b2, b3, b4⟩⟩ := hR
  have hp5 := r1.2.2.2.2.2.2.2.1.2.2.1
  refine k_X11_tear 7 μ _ (k_X10_seen 7 μ _ (k_X10_entries 7 μ _ (k_X10_forget 7 μ _ (k_X12_tear 8 _ _ ⟨?_, n, B, nP, nW, zHs_cg ?_ ?_ r1, ⟨zLR_cg hp5 ?_ ?_ r2, r3⟩, zTx_cg ?_ ?_ ?_ ?_ ?_ ?_ r4, zPs_cg hp5 ?_ ?_ ?_ ?_ r5, zIm_cg hp5 ?_ ?_ ?_ ?_ ?_ r6, zCh_cg ?_ ?_ r7, ⟨0, rfl, rfl, by omega, fun k hk => absurd hk (by omega)⟩, ⟨0, rfl, rfl, by omega, fun k hk => absurd hk (by omega)⟩⟩))))
  · show w32 (μ 7 0 7 + μ 7 0 8) = w32 (μ 9 0 13 + μ 9 0 15)
    rw [s1, s2, b1, b2]
  all_goals intros; repeat rw [zo (by omega)]
theorem q_seed (μ : zM) (hR : zRel μ) (a : Int) (ha : a < 2147483648) : zAsk m_X11_seed m_X12_seed [zI a] μ := by
  have hR0 := hR
  obtain ⟨n, B, nP, nW, r1, ⟨r2, r3⟩, r4, r5, r6, ⟨c1, c2, c3⟩, r8, r9⟩ := hR
  have hp5 := r1.2.2.2.2.2.2.2.1.2.2.1
  refine k_X11_seed 8 a μ _ ⟨fun q => k_X12_seed 8 a _ _ ⟨fun _ => ⟨?_, n, B, nP, nW, zHs_cg ?_ ?_ r1, ⟨zLR_cg hp5 ?_ ?_ r2, r3⟩, zTx_cg ?_ ?_ ?_ ?_ ?_ ?_ r4, zPs_cg hp5 ?_ ?_ ?_ ?_ r5, zIm_cg hp5 ?_ ?_ ?_ ?_ ?_ r6, ⟨rfl, q, ha⟩, zSg_cg ?_ ?_ ?_ r8, zBk_cg ?_ ?_ ?_ r9⟩, fun z => absurd q z⟩, fun q => k_X12_seed 8 a _ _ ⟨fun z => absurd z q, fun _ => ⟨rfl, hR0⟩⟩⟩
  · show μ 1 0 8 = w32 (μ 9 0 8)
    rw [c1, z_fix (by omega) (by omega)]
  all_goals intros; repeat rw [zo (by omega)]
