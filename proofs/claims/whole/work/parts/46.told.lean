/-! TOLD, both sides -/
theorem zmi_min (M : Nat) : zmin 20 (M : Int) = ((zmi M 20 : Nat) : Int) := by
  unfold zmin zmi
  by_cases q : M < 20
  · rw [if_pos q]; split <;> omega
  · rw [if_neg q]; split <;> omega
theorem q_told (μ : zM) (hR : zRel μ) (w : Int) : zAsk m_X11_told m_X12_told [zI w] μ := by
  obtain ⟨n, B, nP, nW, hHs, hLR, hC, hM, hLc, hLm, he⟩ := zrd0 hR
  have hR0 := hR
  obtain ⟨n', B', nP', nW', r1, ⟨r2, r3⟩, ⟨L, t1, t2, -⟩, ⟨N, X, p1, p2, -⟩, r6, r7, ⟨N2, s1, s2, -⟩, ⟨N3, b1, b2, -⟩⟩ := hR
  obtain ⟨u1, u2, u3, u4, u5, u6, u7, u8, u9, u10, u11⟩ := r1
  obtain ⟨⟨l1, -⟩, ⟨l2, -⟩, ⟨M, m1, -, m3, -⟩, -⟩ := r2
  have fin : ∀ x : Int, ((w < 0 ∨ 13 < w) → x = -1000000002) → (w = 0 → x = if μ 3 0 0 = 0 then -1 else μ 3 0 1) → (w = 1 → x = μ 3 0 2) → (w = 2 → x = μ 3 0 3) → (w = 3 → x = μ 3 0 4) → (w = 4 → x = μ 2 0 2) → (w = 5 → x = μ 4 0 1) → (w = 6 → x = μ 4 0 2) → (w = 7 → x = ((zmi M 20 : Nat) : Int)) → (w = 8 → x = zbm (zopn (rC μ 0) B) n) → (w = 9 → x = zSm (fun r => zpct (μ 15 0 r)) n) → (w = 10 → x = (zmor (fun x => zcnt (rC μ 0) B n (x : Int)) 9).1) → (w = 11 → x = μ 7 0 7) → (w = 12 → x = μ 7 0 8) → (w = 13 → x = μ 5 0 1) → zC1 8 m_X12_told [zR 9 0, zI w] μ (fun y μ2 => x = y ∧ zRel μ2) := by
    intro x h0 h1 h2 h3 h4 h5 h6 h7 h8 h9 h10 h11 h12 h13 h14
    refine k_X12_told 7 w μ _ ⟨fun q => ⟨h0 q, hR0⟩, fun q => ⟨by omega, fun z => ⟨by omega, ?_, hR0⟩, fun z => ⟨?_, hR0⟩⟩, fun q => ⟨by omega, ?_, hR0⟩, fun q => ⟨by omega, ?_, hR0⟩, fun q => ⟨by omega, ?_, hR0⟩, fun q => ⟨by rw [h5 q, t1, t2], hR0⟩, fun q => ⟨by omega, by rw [h6 q, ← l1], hR0⟩, fun q => ⟨by omega, by rw [h7 q, ← l2], hR0⟩, fun q => ⟨by omega, by rw [h8 q, ← m3], hR0⟩, fun q => s_mopen 4 μ hM hLm _ ⟨by rw [he]; exact h9 q, hR0⟩, fun q => s_mliftedInAll 6 μ hLm _ ⟨?_, hR0⟩, fun q => s_mmostRead 4 μ hM hLm _ (fun μ' ha => ⟨by rw [he]; exact h11 q, zkp_rel (zkp_ag ha (fun i k => by unfold zsc; omega)) hR0⟩), fun q => ⟨by rw [h12 q, s1, s2], hR0⟩, fun q => ⟨by rw [h13 q, b1, b2], hR0⟩, fun q => ⟨by rw [h14 q, p1, p2], hR0⟩, trivial⟩
    · rw [h1 q, u6.1, if_neg (fun z2 => z (by rw [u5.1]; exact z2))]
    · rw [h1 q, if_pos (by rw [← u5.1]; exact Classical.byContradiction fun z2 => z z2)]
    · subst q; rw [h2 rfl, u1.1]; exact u2.1.symm
    · subst q; rw [h3 rfl, u8.1]; exact u8.2.1.symm
    · subst q; rw [h4 rfl, u10.1]; exact u10.2.1.symm
    · rw [h10 q]
      have e6 : ∀ r, r < 6 → zpct (μ 34 0 r) = zpct (μ 15 0 r) := fun r hr => by
        have := (hLR.2.2.2.1 r hr).1
        rw [Nat.zero_add] at this
        rw [this]
      rw [zSm_ext e6]
      -- behind the last ROOM nothing is LIFTED
      have e7 : ∀ m i : Nat, i + m = 6 → n ≤ i → zSm (fun r => zpct (μ 15 0 r)) i = zSm (fun r => zpct (μ 15 0 r)) 6 := by
        intro m
        induction m with
        | zero => intro i hi _; rw [show i = 6 by omega]
        | succ m ih =>
          intro i hi hn
          rw [← ih (i + 1) (by omega) (by omega), zSm_s, (hLR.2.2.2.1 i (by omega)).2.2 hn, show zpct 0 = 0 by decide +kernel, Int.add_zero]
      exact e7 (6 - n) n (by have := hC.2.1; omega) (Nat.le_refl _)
  refine k_X11_told 7 w μ _ ⟨fun q => fin _ (fun _ => rfl) (by omega) (by omega) (by omega) (by omega) (by omega) (by omega) (by omega) (by omega) (by omega) (by omega) (by omega) (by omega) (by omega) (by omega), fun q => ⟨fun z => fin _ (by omega) (fun _ => by rw [if_pos z]) (by omega) (by omega) (by omega) (by omega) (by omega) (by omega) (by omega) (by omega) (by omega) (by omega) (by omega) (by omega) (by omega), fun z => fin _ (by omega) (fun _ => by rw [if_neg z]) (by omega) (by omega) (by omega) (by omega) (by omega) (by omega) (by omega) (by omega) (by omega) (by omega) (by omega) (by omega) (by omega)⟩, fun q => fin _ (by omega) (by omega) (fun _ => rfl) (by omega) (by omega) (by omega) (by omega) (by omega) (by omega) (by omega) (by omega) (by omega) (by omega) (by omega) (by omega), fun q => fin _ (by omega) (by omega) (by omega) (fun _ => rfl) (by omega) (by omega) (by omega) (by omega) (by omega) (by omega) (by omega) (by omega) (by omega) (by omega) (by omega), fun q => fin _ (by omega) (by omega) (by omega) (by omega) (fun _ => rfl) (by omega) (by omega) (by omega) (by omega) (by omega) (by omega) (by omega) (by omega) (by omega) (by omega), fun q => k_X7_letters 7 μ _ (fin _ (by omega) (by omega) (by omega) (by omega) (by omega) (fun _ => rfl) (by omega) (by omega) (by omega) (by omega) (by omega) (by omega) (by omega) (by omega) (by omega)), fun q => fin _ (by omega) (by omega) (by omega) (by omega) (by omega) (by omega) (fun _ => rfl) (by omega) (by omega) (by omega) (by omega) (by omega) (by omega) (by omega) (by omega), fun q => fin _ (by omega) (by omega) (by omega) (by omega) (by omega) (by omega) (by omega) (fun _ => rfl) (by omega) (by omega) (by omega) (by omega) (by omega) (by omega) (by omega), fun q => k_X3_loggedNow 6 0 μ _ ?_, fun q => s_openRooms 4 0 μ hC hLc _ (fin _ (by omega) (by omega) (by omega) (by omega) (by omega) (by omega) (by omega) (by omega) (by omega) (fun _ => rfl) (by omega) (by omega) (by omega) (by omega) (by omega)), fun q => s_liftedInAll 5 0 μ hC hLc _ (fin _ (by omega) (by omega) (by omega) (by omega) (by omega) (by omega) (by omega) (by omega) (by omega) (by omega) (fun _ => rfl) (by omega) (by omega) (by omega) (by omega)), fun q => s_mostRead 3 0 μ hC hLc _ (fin _ (by omega) (by omega) (by omega) (by omega) (by omega) (by omega) (by omega) (by omega) (by omega) (by omega) (by omega) (fun _ => rfl) (by omega) (by omega) (by omega)), fun q => k_X10_seen 7 μ _ (fin _ (by omega) (by omega) (by omega) (by omega) (by omega) (by omega) (by omega) (by omega) (by omega) (by omega) (by omega) (by omega) (fun _ => rfl) (by omega) (by omega)), fun q => k_X10_entries 7 μ _ (fin _ (by omega) (by omega) (by omega) (by omega) (by omega) (by omega) (by omega) (by omega) (by omega) (by omega) (by omega) (by omega) (by omega) (fun _ => rfl) (by omega)), fun q => k_X6_size 7 μ _ (fin _ (by omega) (by omega) (by omega) (by omega) (by omega) (by omega) (by omega) (by omega) (by omega) (by omega) (by omega) (by omega) (by omega) (by omega) (fun _ => rfl)), trivial⟩
  rw [m1, zmi_min]
  exact fin _ (by omega) (by omega) (by omega) (by omega) (by omega) (by omega) (by omega) (by omega) (fun _ => rfl) (by omega) (by omega) (by omega) (by omega) (by omega) (by omega)
