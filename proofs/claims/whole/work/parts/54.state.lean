/-! THE STATE of deeds, told without memory: the life (S, M), the past (N of them, PS), the draws' number c -/
def zPC (μ : zM) (nP N X : Nat) (PS : Nat → zST × Nat) : Prop := μ 5 0 1 = (N : Int) ∧ μ 5 0 2 = (X : Int) ∧ X < 30 ∧ N ≤ 30 ∧ ∀ k, k < N → zLC μ nP (2 + (X + 30 - N + k) % 30) (PS k).1 (PS k).2
def zPM (μ : zM) (nP N : Nat) (PS : Nat → zST × Nat) : Prop := μ 9 0 5 = (N : Int) ∧ ∀ k, k < N → zLN μ nP 35 0 (44 * k) (PS k).1 (PS k).2
def zPO (n : Nat) (B : Nat → Nat) (nP N : Nat) (PS : Nat → zST × Nat) : Prop := ∀ k, k < N → zOK n B nP (PS k).1 (PS k).2 ∧ (PS k).1 0 0 ≤ 90030
def zup (N : Nat) : Nat := if N = 30 then 30 else N + 1
def zpu (N : Nat) (PS : Nat → zST × Nat) (S : zST) (M : Nat) (k : Nat) : zST × Nat := if N = 30 then (if k = 29 then (S, M) else PS (k + 1)) else (if k = N then (S, M) else PS k)
theorem zup_le {N : Nat} (h : N ≤ 30) : zup N ≤ 30 := by unfold zup; split <;> omega
theorem zPC_add {μ μ' : zM} {nP N X : Nat} {PS : Nat → zST × Nat} {S : zST} {M : Nat} (hp5 : nP ≤ 5) (h : zPC μ nP N X PS) (c : zLC μ nP 0 S M) (a : zAdd μ N X μ') : zPC μ' nP (zup N) ((X + 1) % 30) (zpu N PS S M) ∧ zLC μ' nP 0 S M := by
  obtain ⟨h1, h2, h3, h4, h5⟩ := h
  obtain ⟨a1, a2, a3, a4, a5, a6, a7⟩ := a
  have hnew := zLC_cg hp5 a1 a2 a3 a4 c
  have keep : ∀ j S' M', j ≠ 2 + X → zLC μ nP j S' M' → zLC μ' nP j S' M' := by
    intro j S' M' q1 q2
    exact zLC_cg hp5 (fun k _ _ => a7 _ _ _ (by omega) (by omega)) (fun k _ => a7 _ _ _ (by omega) (by omega)) (fun t k _ _ _ => a7 _ _ _ (by omega) (by omega)) (fun k _ => a7 _ _ _ (by omega) (by omega)) q2
  refine ⟨⟨a6, a5, by omega, zup_le h4, fun k hk => ?_⟩, keep 0 S M (by omega) c⟩
  unfold zup at hk ⊢
  unfold zpu
  by_cases hN : N = 30
  · rw [if_pos hN] at hk ⊢
    rw [if_pos hN]
    by_cases hk2 : k = 29
    · rw [if_pos hk2, show ((X + 1) % 30 + 30 - 30 + k) % 30 = X by omega]
      exact hnew
    · rw [if_neg hk2, show ((X + 1) % 30 + 30 - 30 + k) % 30 = (X + 30 - N + (k + 1)) % 30 by omega]
      exact keep _ _ _ (by omega) (h5 (k + 1) (by omega))
  · rw [if_neg hN] at hk ⊢
    rw [if_neg hN]
    by_cases hk2 : k = N
    · rw [if_pos hk2, show ((X + 1) % 30 + 30 - (N + 1) + k) % 30 = X by omega]
      exact hnew
    · rw [if_neg hk2, show ((X + 1) % 30 + 30 - (N + 1) + k) % 30 = (X + 30 - N + k) % 30 by omega]
      exact keep _ _ _ (by omega) (h5 k (by omega))
theorem zPM_add {μ μ' : zM} {nP N : Nat} {PS : Nat → zST × Nat} {S : zST} {M : Nat} (hp5 : nP ≤ 5) (hN30 : N ≤ 30) (h : zPM μ nP N PS) (c : zLN μ nP 34 0 0 S M) (a : zRem μ N μ') : zPM μ' nP (zup N) (zpu N PS S M) ∧ zLN μ' nP 34 0 0 S M := by
  obtain ⟨h1, h5⟩ := h
  obtain ⟨a1, a2, a3, a4⟩ := a
  refine ⟨⟨a1, fun k hk => ?_⟩, zLN_cg hp5 (fun k _ => a4 _ _ _ (by omega) (by omega)) c⟩
  have hnew : zLN μ' nP 35 0 (44 * (if N = 30 then 29 else N)) S M := zLN_cg hp5 (fun x hx => by rw [a3 x hx, Nat.zero_add]) c
  unfold zup at hk
  unfold zpu
  by_cases hN : N = 30
  · rw [if_pos hN] at hk hnew a2 ⊢
    by_cases hk2 : k = 29
    · rw [if_pos hk2, hk2]; exact hnew
    · rw [if_neg hk2]
      refine zLN_cg hp5 (fun x hx => ?_) (h5 (k + 1) (by omega))
      rw [a2 _ (by omega), if_pos hN, show 44 * k + x + 44 = 44 * (k + 1) + x by omega]
  · rw [if_neg hN] at hk hnew a2 ⊢
    by_cases hk2 : k = N
    · rw [if_pos hk2, hk2]; exact hnew
    · rw [if_neg hk2]
      refine zLN_cg hp5 (fun x hx => ?_) (h5 k (by omega))
      rw [a2 _ (by omega), if_neg hN]
      rfl
theorem zPO_add {n : Nat} {B : Nat → Nat} {nP N : Nat} {PS : Nat → zST × Nat} {S : zST} {M : Nat} (h : zPO n B nP N PS) (o : zOK n B nP S M) (h90 : S 0 0 ≤ 90030) : zPO n B nP (zup N) (zpu N PS S M) := by
  intro k hk
  unfold zup at hk
  unfold zpu
  by_cases hN : N = 30
  · rw [if_pos hN] at hk ⊢
    by_cases hk2 : k = 29
    · rw [if_pos hk2]; exact ⟨o, h90⟩
    · rw [if_neg hk2]; exact h (k + 1) (by omega)
  · rw [if_neg hN] at hk ⊢
    by_cases hk2 : k = N
    · rw [if_pos hk2]; exact ⟨o, h90⟩
    · rw [if_neg hk2]; exact h k (by omega)
/-- what deeds change, on each side -/
def zfC (μ μ' : zM) : Prop := ∀ t i k, ¬ (zlv t ∧ i < 32) → t ≠ 5 → ¬ (t = 1 ∧ k = 8) → ¬ zsc t i k → μ' t i k = μ t i k
def zfM (μ μ' : zM) : Prop := ∀ t i k, t ≠ 34 → t ≠ 35 → ¬ (t = 9 ∧ (k = 5 ∨ k = 8)) → ¬ zsc t i k → μ' t i k = μ t i k
theorem zfC_r (μ : zM) : zfC μ μ := fun _ _ _ _ _ _ _ => rfl
theorem zfM_r (μ : zM) : zfM μ μ := fun _ _ _ _ _ _ _ => rfl
theorem zfC_t {a b c : zM} (h1 : zfC a b) (h2 : zfC b c) : zfC a c := fun t i k q1 q2 q3 q4 => (h2 t i k q1 q2 q3 q4).trans (h1 t i k q1 q2 q3 q4)
theorem zfM_t {a b c : zM} (h1 : zfM a b) (h2 : zfM b c) : zfM a c := fun t i k q1 q2 q3 q4 => (h2 t i k q1 q2 q3 q4).trans (h1 t i k q1 q2 q3 q4)
theorem zAdd_fC {μ μ' : zM} {N X : Nat} (hX : X < 30) (a : zAdd μ N X μ') : zfC μ μ' := fun t i k q1 q2 q3 q4 => a.2.2.2.2.2.2 t i k (fun z => q1 ⟨z.1, by omega⟩) q2
theorem zRem_fM {μ μ' : zM} {N : Nat} (a : zRem μ N μ') : zfM μ μ' := fun t i k q1 q2 q3 q4 => a.2.2.2 t i k q2 (fun z => q3 ⟨z.1, Or.inl z.2⟩)
def zCS (μ : zM) (nP : Nat) (S : zST) (M N X : Nat) (PS : Nat → zST × Nat) (c : Int) : Prop := zLC μ nP 0 S M ∧ zPC μ nP N X PS ∧ μ 1 0 8 = c
def zMS (μ : zM) (nP : Nat) (S : zST) (M N : Nat) (PS : Nat → zST × Nat) (c : Int) : Prop := zLN μ nP 34 0 0 S M ∧ zPM μ nP N PS ∧ μ 9 0 8 = c
def zDO (n : Nat) (B : Nat → Nat) (nP : Nat) (S : zST) (M N : Nat) (PS : Nat → zST × Nat) (c : Int) : Prop := zOK n B nP S M ∧ zPO n B nP N PS ∧ S 0 0 ≤ 90030 ∧ 0 ≤ c ∧ c < 2147483648
/-- what deeds leave alone -/
def zHO (μ : zM) (n : Nat) (B : Nat → Nat) (nP nW : Nat) : Prop := zHs μ n B nP nW ∧ zTx μ ∧ zIm μ n B nP ∧ zSg μ ∧ zBk μ n B
theorem zHO_5 {μ : zM} {n : Nat} {B : Nat → Nat} {nP nW : Nat} (h : zHO μ n B nP nW) : nP ≤ 5 := h.1.2.2.2.2.2.2.2.1.2.2.1
theorem zHO_C {μ μ' : zM} {n : Nat} {B : Nat → Nat} {nP nW : Nat} (f : zfC μ μ') (h : zHO μ n B nP nW) : zHO μ' n B nP nW := by
  have hp5 := zHO_5 h
  obtain ⟨h1, h2, h3, h4, h5⟩ := h
  have g : ∀ t i k, ¬ (zlv t ∧ i < 32) → t ≠ 5 → ¬ (t = 1 ∧ k = 8) → ¬ zsc t i k → μ' t i k = μ t i k := f
  unfold zlv zsc at g
  refine ⟨zHs_cg ?_ ?_ h1, zTx_cg ?_ ?_ ?_ ?_ ?_ ?_ h2, zIm_cg hp5 ?_ ?_ ?_ ?_ ?_ h3, zSg_cg ?_ ?_ ?_ h4, zBk_cg ?_ ?_ ?_ h5⟩
  all_goals intros; refine g _ _ _ ?_ ?_ ?_ ?_ <;> omega
theorem zHO_M {μ μ' : zM} {n : Nat} {B : Nat → Nat} {nP nW : Nat} (f : zfM μ μ') (h : zHO μ n B nP nW) : zHO μ' n B nP nW := by
  have hp5 := zHO_5 h
  obtain ⟨h1, h2, h3, h4, h5⟩ := h
  have g : ∀ t i k, t ≠ 34 → t ≠ 35 → ¬ (t = 9 ∧ (k = 5 ∨ k = 8)) → ¬ zsc t i k → μ' t i k = μ t i k := f
  unfold zsc at g
  refine ⟨zHs_cg ?_ ?_ h1, zTx_cg ?_ ?_ ?_ ?_ ?_ ?_ h2, zIm_cg hp5 ?_ ?_ ?_ ?_ ?_ h3, zSg_cg ?_ ?_ ?_ h4, zBk_cg ?_ ?_ ?_ h5⟩
  all_goals intros; refine g _ _ _ ?_ ?_ ?_ ?_ <;> omega
theorem zCS_M {μ μ' : zM} {nP : Nat} {S : zST} {M N X : Nat} {PS : Nat → zST × Nat} {c : Int} (hp5 : nP ≤ 5) (f : zfM μ μ') (h : zCS μ nP S M N X PS c) : zCS μ' nP S M N X PS c := by
  obtain ⟨h1, ⟨p1, p2, p3, p4, p5⟩, h3⟩ := h
  have lc : ∀ j S M, j ≠ 1 → zLC μ nP j S M → zLC μ' nP j S M := by
    intro j S M hj q
    exact zLC_cg hp5 (fun k _ _ => f _ _ _ (by omega) (by omega) (by omega) (by unfold zsc; omega)) (fun k _ => f _ _ _ (by omega) (by omega) (by omega) (by unfold zsc; omega)) (fun t k _ _ _ => f _ _ _ (by omega) (by omega) (by omega) (by unfold zsc; omega)) (fun k _ => f _ _ _ (by omega) (by omega) (by omega) (by unfold zsc; omega)) q
  refine ⟨lc 0 S M (by omega) h1, ⟨?_, ?_, p3, p4, fun k hk => lc _ _ _ (by omega) (p5 k hk)⟩, ?_⟩
  · rw [f _ _ _ (by omega) (by omega) (by omega) (by unfold zsc; omega)]; exact p1
  · rw [f _ _ _ (by omega) (by omega) (by omega) (by unfold zsc; omega)]; exact p2
  · rw [f _ _ _ (by omega) (by omega) (by omega) (by unfold zsc; omega)]; exact h3
theorem zMS_C {μ μ' : zM} {nP : Nat} {S : zST} {M N : Nat} {PS : Nat → zST × Nat} {c : Int} (hp5 : nP ≤ 5) (f : zfC μ μ') (h : zMS μ nP S M N PS c) : zMS μ' nP S M N PS c := by
  obtain ⟨h1, ⟨p1, p2⟩, h3⟩ := h
  refine ⟨zLN_cg hp5 (fun k _ => f _ _ _ (by unfold zlv; omega) (by omega) (by omega) (by unfold zsc; omega)) h1, ⟨?_, fun k hk => zLN_cg hp5 (fun x _ => f _ _ _ (by unfold zlv; omega) (by omega) (by omega) (by unfold zsc; omega)) (p2 k hk)⟩, ?_⟩
  · rw [f _ _ _ (by unfold zlv; omega) (by omega) (by omega) (by unfold zsc; omega)]; exact p1
  · rw [f _ _ _ (by unfold zlv; omega) (by omega) (by omega) (by unfold zsc; omega)]; exact h3
theorem zRel_of {μ : zM} {n : Nat} {B : Nat → Nat} {nP nW : Nat} {S : zST} {M N X : Nat} {PS : Nat → zST × Nat} {c : Int} (o : zHO μ n B nP nW) (a : zCS μ nP S M N X PS c) (b : zMS μ nP S M N PS c) (d : zDO n B nP S M N PS c) : zRel μ := by
  obtain ⟨o1, o2, o3, o4, o5⟩ := o
  obtain ⟨a1, ⟨p1, p2, p3, p4, p5⟩, a3⟩ := a
  obtain ⟨b1, ⟨q1, q2⟩, b3⟩ := b
  obtain ⟨d1, d2, d3, d4⟩ := d
  refine ⟨n, B, nP, nW, o1, ⟨zLR_of d1 a1 b1 d3, by rw [a1.1]; exact d3⟩, o2, ⟨N, X, p1, q1, p4, p2, p3, fun k hk => zLR_of (d2 k hk).1 (p5 k hk) (q2 k hk) (d2 k hk).2⟩, o3, ⟨by rw [b3, a3], by rw [a3]; exact d4⟩, o4, o5⟩
theorem zLR_to2 {μ : zM} {n : Nat} {B : Nat → Nat} {nP N X : Nat} (h : ∀ k, k < N → zLR μ n B nP (2 + (X + 30 - N + k) % 30) 35 0 (44 * k)) : ∃ PS : Nat → zST × Nat, zPO n B nP N PS ∧ (∀ k, k < N → zLC μ nP (2 + (X + 30 - N + k) % 30) (PS k).1 (PS k).2) ∧ ∀ k, k < N → zLN μ nP 35 0 (44 * k) (PS k).1 (PS k).2 := by
  have h2 : ∀ k, ∃ p : zST × Nat, k < N → zOK n B nP p.1 p.2 ∧ zLC μ nP (2 + (X + 30 - N + k) % 30) p.1 p.2 ∧ zLN μ nP 35 0 (44 * k) p.1 p.2 ∧ p.1 0 0 ≤ 90030 := by
    intro k
    by_cases hk : k < N
    · obtain ⟨S, M, q⟩ := zLR_to (h k hk)
      exact ⟨(S, M), fun _ => q⟩
    · exact ⟨(fun _ _ => 0, 0), fun z => absurd z hk⟩
  have hPS := fun k => Classical.choose_spec (h2 k)
  exact ⟨fun k => Classical.choose (h2 k), fun k hk => ⟨(hPS k hk).1, (hPS k hk).2.2.2⟩, fun k hk => (hPS k hk).2.1, fun k hk => (hPS k hk).2.2.1⟩
theorem zRel_to {μ : zM} (h : zRel μ) : ∃ (n : Nat) (B : Nat → Nat) (nP nW : Nat) (S : zST) (M N X : Nat) (PS : Nat → zST × Nat) (c : Int), zHO μ n B nP nW ∧ zCS μ nP S M N X PS c ∧ zMS μ nP S M N PS c ∧ zDO n B nP S M N PS c := by
  obtain ⟨n, B, nP, nW, r1, ⟨r2, r3⟩, r4, ⟨N, X, p1, p2, p3, p4, p5, p6⟩, r6, ⟨c1, c2⟩, r8, r9⟩ := h
  obtain ⟨S, M, l1, l2, l3, l4⟩ := zLR_to r2
  obtain ⟨PS, g1, g2, g3⟩ := zLR_to2 p6
  refine ⟨n, B, nP, nW, S, M, N, X, PS, μ 1 0 8, ⟨r1, r4, r6, r8, r9⟩, ⟨l2, ⟨p1, p4, p5, p3, g2⟩, rfl⟩, ⟨l3, ⟨p2, g3⟩, c1⟩, l1, g1, ?_, c2⟩
  rw [← l2.1]; exact r3
