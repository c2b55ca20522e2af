/-! AN HOUR of the model, whole -/
theorem s_hourGoes (d i n nP nW D : Nat) (hm1 : Int) (hp5 : nP ≤ 5) (hw6 : nW ≤ 6) (μ : zM) {B : Nat → Nat} (hHs : zHs μ n B nP nW) (e3 : μ 3 0 1 = (D : Int)) (hD : D ≤ 99) {S : zST} {M : Nat} (o : zOK n B nP S M) (ho : S 0 0 < 100000) (h : zLN μ nP 34 i 0 S M) (K : Int → zM → Prop) (hK : ∀ μ', zLN μ' nP 34 i 0 (zhrS (μ 11 0) (μ 12 0) B (fun w c => μ 14 0 (4 * w + c)) n nP nW D (S, M)).1 (zhrS (μ 11 0) (μ 12 0) B (fun w c => μ 14 0 (4 * w + c)) n nP nW D (S, M)).2 → μ' 9 0 24 = (if zhwT (zTT (fun w c => μ 14 0 (4 * w + c)) (zwkS (μ 11 0) (μ 12 0) B S nP)) nP hm1 nW = true then 1 else 0) → (∀ t i' k, ¬ (t = 34 ∧ i' = i) → ¬ (t = 9 ∧ k = 24) → μ' t i' k = μ t i' k) → K (((zhrS (μ 11 0) (μ 12 0) B (fun w c => μ 14 0 (4 * w + c)) n nP nW D (S, M)).2 - M : Nat) : Int) μ') : zC1 (d + 3) m_X12_hourGoes [zR 9 0, zR 34 i, zI hm1] μ K := by
  refine s_allWalk d i nP nW hm1 hp5 μ hHs o h K (fun μ1 hl1 hf1 => ?_)
  have ok1 := zwkS_ok (μ 11 0) (μ 12 0) o nP (Nat.le_refl _)
  have hM : M ≤ 15000000 := by have := o.2.2.1; have := o.1.2; omega
  have hHs1 : zHs μ1 n B nP nW := zHs_cg (fun t k z => hf1 _ _ _ (by omega)) (fun k => hf1 _ _ _ (by omega)) hHs
  have eW : (fun w c => μ1 14 0 (4 * w + c)) = (fun w c => μ 14 0 (4 * w + c)) := by funext a b; exact hf1 _ _ _ (by omega)
  have hWm : ∀ w c, w < nW → c < 4 → μ1 33 0 (175 + 6 * c + w) = (fun w c => μ 14 0 (4 * w + c)) w c := fun w c q1 q2 => by
    rw [← eW]; exact hHs1.2.2.2.2.2.2.2.2.2.1.2.2.2 w c q1 q2
  generalize hW : (fun w c => μ 14 0 (4 * w + c)) = W at hK hWm
  generalize hS1 : zwkS (μ 11 0) (μ 12 0) B S nP = S1 at hl1 ok1 hK
  have h00 : S1 0 0 = S 0 0 := by rw [← hS1]; exact zwkS_o _ _ _ _ _ _ _ (by omega)
  have em : zmtS (μ 11 0) (μ 12 0) B W nP nW (S, M) = zmew (zTT W S1) nP (S1, M) nW := by
    unfold zmtS
    show zmew (zTT W (zwkS (μ 11 0) (μ 12 0) B S nP)) nP (zwkS (μ 11 0) (μ 12 0) B S nP, M) nW = _
    rw [hS1]
  unfold zhrS at hK
  rw [em] at hK
  have hs : zgdS S1 M (S1, M) 0 := ⟨fun _ _ _ _ => rfl, ok1.2.1, Nat.le_refl _, Nat.le_refl _, ok1.2.2.2.1⟩
  have f1 : μ1 33 0 2 = (nP : Int) := hHs1.2.2.2.2.2.2.2.1.2.1
  refine k_X12_hourGoes_t34_2 (d + 2) i hm1 nP μ1 K ⟨by omega, fun _ => s_mmeet d i nP nW hp5 hw6 hm1 μ1 f1 hHs1.2.2.2.2.2.2.2.2.2.1.2.1 W hWm (by omega) hs hl1 _ (fun μ2 hl2 hb2 hf2 => ?_), fun q => absurd q (by omega)⟩
  have hg := zmew_g (T := zTT W S1) hp5 hs nW hw6
  generalize hs2 : zmew (zTT W S1) nP (S1, M) nW = s2 at hl2 hg hK ⊢
  have g00 : s2.1 0 0 = S 0 0 := by rw [hg.1 0 0 (by omega) (by omega)]; exact h00
  obtain ⟨H, hH0⟩ := Int.eq_ofNat_of_zero_le (show 0 ≤ S 0 0 + 1 by have := o.1.1; omega)
  have c1 : μ2 34 i 22 = S 0 0 := by have := hl2.1; rw [Nat.zero_add] at this; rw [this]; exact g00
  have hHs2 : zHs μ2 n B nP nW := zHs_cg (fun t k z => hf2 _ _ _ (by omega) (by omega)) (fun k => hf2 _ _ _ (by omega) (by omega)) hHs1
  have hlh := zLN_h hp5 hl2 (H : Int)
  have hge := hg.2.2.1
  have d1 : μ2 33 0 0 = (D : Int) := by rw [hHs2.2.2.2.2.2.1.1, hf2 _ _ _ (by omega) (by omega), hf1 _ _ _ (by omega)]; exact e3
  have n1 : μ2 33 0 1 = (n : Int) := hHs2.2.1.1
  have hn6 := hHs2.2.1.2.1
  have hK2 : ∀ μ3, zLN μ3 nP 34 i 0 (zdmS D n B (zuS s2.1 0 0 (H : Int)) H) s2.2 → (∀ t i' k, ¬ (t = 34 ∧ i' = i) → μ3 t i' k = μ2 t i' k) → K ((s2.2 - M : Nat) : Int) μ3 := by
    intro μ3 a1 a2
    have hK3 := hK μ3
    rw [show ((S, M) : zST × Nat).1 0 0 + 1 = (H : Int) from hH0, Int.toNat_natCast] at hK3
    exact hK3 a1 (by rw [a2 _ _ _ (by omega)]; exact hb2) (fun t i' k z1 z2 => by rw [a2 _ _ _ z1, hf2 _ _ _ z1 z2]; exact hf1 _ _ _ z1)
  rw [c1, z_fix (show (-2147483648 : Int) ≤ S 0 0 + 1 by have := o.1.1; omega) (by omega), hH0, show (zset μ2 34 i 22 (H : Int)) 33 0 0 = (D : Int) by rw [zo (by omega)]; exact d1, show (zset μ2 34 i 22 (H : Int)) 33 0 1 = (n : Int) by rw [zo (by omega)]; exact n1, zset_self]
  have frH : ∀ t i' k, ¬ (t = 34 ∧ i' = i) → (zset μ2 34 i 22 (H : Int)) t i' k = μ2 t i' k := fun t i' k z => zo (by omega)
  have hH1 : 1 ≤ H := by have := o.1.1; omega
  have hH2 : H ≤ 100000 := by omega
  refine ⟨by omega, by omega, by omega, fun q => hK2 _ ?_ frH, fun q => ⟨by omega, by omega, by omega, fun q2 => hK2 _ ?_ frH, fun q2 => ⟨by omega, fun q3 => hK2 _ ?_ frH, fun q3 => ?_⟩⟩⟩
  · unfold zdmS; rw [if_pos (Or.inl (by omega))]; exact hlh
  · unfold zdmS
    rw [← Int.ofNat_tmod] at q2
    rw [if_pos (Or.inr (Or.inl (by omega)))]; exact hlh
  · unfold zdmS; rw [if_pos (Or.inr (Or.inr (by omega)))]; exact hlh
  · rw [← Int.ofNat_tmod] at q2
    have hHD : H % D = 0 := by omega
    have hDp : 0 < D := by omega
    have hq1 : 1 ≤ H / D := by
      have := Nat.le_of_dvd (by omega) (Nat.dvd_of_mod_eq_zero hHD)
      exact (Nat.le_div_iff_mul_le hDp).mpr (by omega)
    have hq2 : H / D ≤ H := Nat.div_le_self _ _
    rw [← Int.ofNat_tdiv, z_fix (show (-2147483648 : Int) ≤ ((H / D : Nat) : Int) by omega) (by omega), z_fix (show (-2147483648 : Int) ≤ ((H / D : Nat) : Int) - 1 by omega) (by omega), show ((H / D : Nat) : Int) - 1 = ((H / D - 1 : Nat) : Int) by omega]
    have hr := Nat.mod_lt (H / D - 1) (show 0 < n by omega)
    have hdle := Nat.div_le_self (H / D - 1) n
    have hp0 : (0 : Int) ≤ (((H / D - 1) / n : Nat) : Int) := Int.natCast_nonneg _
    have hp1 : (((H / D - 1) / n : Nat) : Int) ≤ ((H / D - 1 : Nat) : Int) := Int.ofNat_le.mpr hdle
    rw [← Int.ofNat_tmod, ← Int.ofNat_tdiv]
    rw [z_fix (show (-2147483648 : Int) ≤ (((H / D - 1) / n : Nat) : Int) by omega) (by omega)]
    obtain ⟨b1, b2, b3⟩ := hHs2.2.1.2.2.1 _ hr
    generalize hrr : (H / D - 1) % n = r at hr b1 b2 b3 ⊢
    generalize hqq : (H / D - 1) / n = kk at hp0 hp1 ⊢
    rw [z_i (c := 0) (m := r) (by omega) (by omega), z_i (c := 4) (m := 4 + r) (by omega) (by omega), Int.toNat_natCast, Int.toNat_natCast, show (zset μ2 34 i 22 (H : Int)) 33 0 (4 + r) = (B r : Int) by rw [zo (by omega)]; exact b1, ← Int.ofNat_tmod]
    have hbm := Nat.mod_lt kk (show 0 < B r by omega)
    have e15 : (zset μ2 34 i 22 (H : Int)) 34 i r = (zuS s2.1 0 0 (H : Int)) 3 r := by have := hlh.2.2.2.1 r (by omega); rw [Nat.zero_add] at this; exact this
    have h12 : zset12 ((zuS s2.1 0 0 (H : Int)) 3 r) := by rw [zuS_o (by omega), hg.1 3 r (by omega) (by omega)]; exact (ok1.2.2.2.2.1 r (by omega)).1
    rw [e15, z_or12 h12 (show kk % B r < 12 by omega)]
    refine ⟨by omega, by omega, by omega, by omega, by omega, by omega, by omega, by omega, by omega, by omega, by omega, hK2 _ ?_ (fun t i' k z => by rw [zo (by omega)]; exact frH t i' k z)⟩
    unfold zdmS
    rw [if_neg (by omega), hrr, hqq]
    have hu := zLN_u hp5 hlh 3 r (zon ((zuS s2.1 0 0 (H : Int)) 3 r) (kk % B r)) (by omega) (by omega) (by rw [if_pos rfl]; omega)
    rw [show zcell 3 + r = r by show 0 + r = r; omega] at hu
    exact hu
