/-! AN HOUR of the class -/
def zdmS (D n : Nat) (B : Nat → Nat) (S : zST) (H : Nat) : zST := if D = 0 ∨ H % D ≠ 0 ∨ n = 0 then S else zuS S 3 ((H / D - 1) % n) (zon (S 3 ((H / D - 1) % n)) ((H / D - 1) / n % B ((H / D - 1) % n)))
def zmtS (P U : Nat → Int) (B : Nat → Nat) (W : Nat → Nat → Int) (nP nW : Nat) (s : zST × Nat) : zST × Nat := zmew (zTT W (zwkS P U B s.1 nP)) nP (zwkS P U B s.1 nP, s.2) nW
def zhrS (P U : Nat → Int) (B : Nat → Nat) (W : Nat → Nat → Int) (n nP nW D : Nat) (s : zST × Nat) : zST × Nat := (zdmS D n B (zuS (zmtS P U B W nP nW s).1 0 0 (s.1 0 0 + 1)) (s.1 0 0 + 1).toNat, (zmtS P U B W nP nW s).2)
theorem zLC_h {μ : zM} {nP j : Nat} {S : zST} {M : Nat} (h : zLC μ nP j S M) (v : Int) : zLC (zset μ 4 j 1 v) nP j (zuS S 0 0 v) M := by
  obtain ⟨c1, c2, c3, c4, c5, c6⟩ := h
  refine ⟨by rw [zset_self, zuS_i], by rw [zo (by omega), zuS_o (by omega)]; exact c2, by rw [zo (by omega)]; exact c3, fun r hr => by rw [zo (by omega), zuS_o (by omega)]; exact c4 r hr, fun p hp => by rw [zo (by omega), zo (by omega), zo (by omega), zuS_o (by omega), zuS_o (by omega), zuS_o (by omega)]; exact c5 p hp, fun k q1 q2 => by rw [zo (by omega), zuS_o (by omega)]; exact c6 k q1 q2⟩
theorem s_anHour (d j n nP nW D : Nat) (hp5 : nP ≤ 5) (hw6 : nW ≤ 6) (μ : zM) {B : Nat → Nat} (hH : zHc μ n B) (e1 : μ 3 0 3 = (nP : Int)) (e2 : μ 3 0 4 = (nW : Int)) (e3 : μ 3 0 1 = (D : Int)) (hD : D ≤ 99) {S : zST} {M : Nat} (o : zOK n B nP S M) (ho : S 0 0 < 100000) (h : zLC μ nP j S M) (K : Int → zM → Prop) (hK : ∀ μ', zLC μ' nP j (zhrS (μ 11 0) (μ 12 0) B (fun w c => μ 14 0 (4 * w + c)) n nP nW D (S, M)).1 (zhrS (μ 11 0) (μ 12 0) B (fun w c => μ 14 0 (4 * w + c)) n nP nW D (S, M)).2 → (∀ t i k, ¬ (zlv t ∧ i = j) → μ' t i k = μ t i k) → K (((zhrS (μ 11 0) (μ 12 0) B (fun w c => μ 14 0 (4 * w + c)) n nP nW D (S, M)).2 - M : Nat) : Int) μ') : zC1 (d + 4) m_X5_anHour [zR 4 j] μ K := by
  refine s_allGoOn d j nP hp5 μ hH e1 o h K (fun μ1 hl1 hf1 => ?_)
  have ok1 := zwkS_ok (μ 11 0) (μ 12 0) o nP (Nat.le_refl _)
  have hM : M ≤ 15000000 := by have := o.2.2.1; have := o.1.2; omega
  generalize hW : (fun w c => μ 14 0 (4 * w + c)) = W at hK
  generalize hS1 : zwkS (μ 11 0) (μ 12 0) B S nP = S1 at hl1 ok1
  have h00 : S1 0 0 = S 0 0 := by rw [← hS1]; exact zwkS_o _ _ _ _ _ _ _ (by omega)
  have em : zmtS (μ 11 0) (μ 12 0) B W nP nW (S, M) = zmew (zTT W S1) nP (S1, M) nW := by
    unfold zmtS
    show zmew (zTT W (zwkS (μ 11 0) (μ 12 0) B S nP)) nP (zwkS (μ 11 0) (μ 12 0) B S nP, M) nW = _
    rw [hS1]
  unfold zhrS at hK
  rw [em] at hK
  have hs : zgdS S1 M (S1, M) 0 := ⟨fun _ _ _ _ => rfl, ok1.2.1, Nat.le_refl _, Nat.le_refl _, ok1.2.2.2.1⟩
  have L : ∀ m w : Nat, w + m = nW → ∀ μ', zLC μ' nP j (zmew (zTT W S1) nP (S1, M) w).1 (zmew (zTT W S1) nP (S1, M) w).2 → (∀ t i k, ¬ (zlv t ∧ i = j) → μ' t i k = μ t i k) → zJ (d + 4) m_X5_anHour 33 [some (zR 4 j), some (zR 3 0), some (zI (M : Int)), some (zI (w : Int))] μ' (zQ1 K) := by
    intro m
    induction m with
    | zero =>
      intro w hw μ' hl hf
      rw [show w = nW by omega] at hl
      have hg := zmew_g (T := zTT W S1) hp5 hs nW hw6
      have hfe : ∀ t i k, ¬ zlv t → μ' t i k = μ t i k := fun t i k z => hf t i k (fun y => z y.1)
      have f2 : μ' 3 0 4 = (nW : Int) := by rw [hfe _ _ _ (by unfold zlv; omega)]; exact e2
      have f3 : μ' 3 0 1 = (D : Int) := by rw [hfe _ _ _ (by unfold zlv; omega)]; exact e3
      have hH' : zHc μ' n B := zHc_cg (fun t k z => hfe _ _ _ (by unfold zlv; omega)) hH
      generalize hs2 : zmew (zTT W S1) nP (S1, M) nW = s2 at hl hg hK
      have g00 : s2.1 0 0 = S 0 0 := by rw [hg.1 0 0 (by omega) (by omega)]; exact h00
      obtain ⟨H, hH0⟩ := Int.eq_ofNat_of_zero_le (show 0 ≤ S 0 0 + 1 by have := o.1.1; omega)
      have c1 : μ' 4 j 1 = S 0 0 := by rw [hl.1]; exact g00
      have c3 : μ' 4 j 3 = ((s2.2 : Nat) : Int) := hl.2.2.1
      have hge := hg.2.2.1
      have hle := hg.2.2.2.1
      have hlh := zLC_h hl (H : Int)
      have hK2 : ∀ μ3, zLC μ3 nP j (zdmS D n B (zuS s2.1 0 0 (H : Int)) H) s2.2 → (∀ t i k, ¬ (zlv t ∧ i = j) → μ3 t i k = μ t i k) → K ((s2.2 - M : Nat) : Int) μ3 := by
        intro μ3 a1 a2
        have hK3 := hK μ3
        rw [show ((S, M) : zST × Nat).1 0 0 + 1 = (H : Int) from hH0, Int.toNat_natCast] at hK3
        exact hK3 a1 a2
      refine k_X5_anHour_33 (d + 3) j 0 _ _ μ' K ⟨fun _ => ?_, fun q => absurd q (by omega)⟩
      rw [c1, z_fix (show (-2147483648 : Int) ≤ S 0 0 + 1 by omega) (by omega), hH0]
      have frH : ∀ t i k, ¬ (zlv t ∧ i = j) → (zset μ' 4 j 1 (H : Int)) t i k = μ t i k := fun t i k z => by
        rw [zo (by unfold zlv at z; omega)]; exact hf t i k z
      rw [show (zset μ' 4 j 1 (H : Int)) 3 0 1 = (D : Int) by rw [zo (by omega)]; exact f3, show (zset μ' 4 j 1 (H : Int)) 4 j 3 = ((s2.2 : Nat) : Int) by rw [zo (by omega)]; exact c3, zset_self, z_fix (show (-2147483648 : Int) ≤ ((s2.2 : Nat) : Int) - (M : Int) by omega) (by omega), show ((s2.2 : Nat) : Int) - (M : Int) = ((s2.2 - M : Nat) : Int) by omega]
      refine ⟨fun q => hK2 _ ?_ frH, fun q => ⟨by omega, fun q2 => hK2 _ ?_ frH, fun q2 => ⟨by omega, ?_⟩⟩⟩
      · unfold zdmS; rw [if_pos (Or.inl (by omega))]; exact hlh
      · unfold zdmS
        rw [← Int.ofNat_tmod] at q2
        rw [if_pos (Or.inr (Or.inl (by omega)))]; exact hlh
      · rw [← Int.ofNat_tmod] at q2
        have hHD : H % D = 0 := by omega
        have hDp : 0 < D := by omega
        have hH1 : 1 ≤ H := by have := o.1.1; omega
        have hq1 : 1 ≤ H / D := by
          have := Nat.le_of_dvd (by omega) (Nat.dvd_of_mod_eq_zero hHD)
          exact (Nat.le_div_iff_mul_le hDp).mpr (by omega)
        have hq2 : H / D ≤ H := Nat.div_le_self _ _
        rw [← Int.ofNat_tdiv, z_fix (show (-2147483648 : Int) ≤ ((H / D : Nat) : Int) by omega) (by omega), z_fix (by omega) (by omega), show ((H / D : Nat) : Int) - 1 = ((H / D - 1 : Nat) : Int) by omega]
        have hHn : (zset μ' 4 j 1 (H : Int)) 3 0 2 = (n : Int) := by rw [zo (by omega)]; exact hH'.1
        have hHH : zHc (zset μ' 4 j 1 (H : Int)) n B := zHc_cg (fun t k z => by rw [zo (by omega)]) hH'
        refine k_X5_dampLifts (d + 2) j _ _ _ ?_
        rw [hHn]
        refine ⟨fun q3 => ⟨by omega, by omega, ?_⟩, fun q3 => ?_⟩
        · have hr := Nat.mod_lt (H / D - 1) (show 0 < n by omega)
          obtain ⟨b1, b2, b3⟩ := hHH.2.2.1 _ hr
          have hn6 := hHH.2.1
          rw [← Int.ofNat_tmod, ← Int.ofNat_tdiv]
          have hdle := Nat.div_le_self (H / D - 1) n
          have hp0 : (0 : Int) ≤ (((H / D - 1) / n : Nat) : Int) := Int.natCast_nonneg _
          have hp1 : (((H / D - 1) / n : Nat) : Int) ≤ ((H / D - 1 : Nat) : Int) := Int.ofNat_le.mpr hdle
          refine s_barsOf (d + 1) 0 _ (by omega) _ _ ?_
          rw [b1, z_fix (show (-2147483648 : Int) ≤ (((H / D - 1) / n : Nat) : Int) by omega) (by omega)]
          have hbm := Nat.mod_lt ((H / D - 1) / n) (show 0 < B ((H / D - 1) % n) by omega)
          refine s_leftOver _ _ _ (by omega) _ _ ?_
          have hz12 : ∀ r, r < 6 → zset12 ((zset μ' 4 j 1 (H : Int)) 15 j r) := fun r hr6 => by
            rw [zo (by omega), hl.2.2.2.1 r hr6, hg.1 3 r (by omega) (by omega)]; exact (ok1.2.2.2.2.1 r hr6).1
          have e15 : (zset μ' 4 j 1 (H : Int)) 15 j ((H / D - 1) % n) = (zuS s2.1 0 0 (H : Int)) 3 ((H / D - 1) % n) := hlh.2.2.2.1 _ (by omega)
          refine s_isLifted (d + 1) j _ _ (by omega) (by omega) _ hz12 _ ?_
          rw [e15]
          by_cases qz : zbit ((zuS s2.1 0 0 (H : Int)) 3 ((H / D - 1) % n)) ((H / D - 1) / n % B ((H / D - 1) % n)) = true
          · rw [if_pos qz]
            refine ⟨fun _ => ?_, fun z => absurd (show (1 : Int) ≠ 0 by decide) z⟩
            rw [show (zset μ' 4 j 1 (H : Int)) 4 j 3 = ((s2.2 : Nat) : Int) by rw [zo (by omega)]; exact c3, z_fix (show (-2147483648 : Int) ≤ ((s2.2 : Nat) : Int) - (M : Int) by omega) (by omega), show ((s2.2 : Nat) : Int) - (M : Int) = ((s2.2 - M : Nat) : Int) by omega]
            refine hK2 _ ?_ frH
            unfold zdmS
            rw [if_neg (by omega)]
            have hz := hlh
            have hid : zon ((zuS s2.1 0 0 (H : Int)) 3 ((H / D - 1) % n)) ((H / D - 1) / n % B ((H / D - 1) % n)) = (zuS s2.1 0 0 (H : Int)) 3 ((H / D - 1) % n) := by unfold zon; rw [if_pos qz]
            rw [hid]
            have hu := zLC_u hlh 15 3 ((H / D - 1) % n) ((zuS s2.1 0 0 (H : Int)) 3 ((H / D - 1) % n)) (by omega) (by omega) rfl
            rw [zset_id e15] at hu
            exact hu
          · rw [if_neg qz]
            refine ⟨fun z => absurd rfl z, fun _ => s_turn d j _ _ (by omega) (by omega) _ (hz12 _ (by omega)) _ ?_⟩
            rw [e15, z_flip_on qz, show (zset (zset μ' 4 j 1 (H : Int)) 15 j ((H / D - 1) % n) (zon ((zuS s2.1 0 0 (H : Int)) 3 ((H / D - 1) % n)) ((H / D - 1) / n % B ((H / D - 1) % n)))) 4 j 3 = ((s2.2 : Nat) : Int) by rw [zo (by omega), zo (by omega)]; exact c3, z_fix (show (-2147483648 : Int) ≤ ((s2.2 : Nat) : Int) - (M : Int) by omega) (by omega), show ((s2.2 : Nat) : Int) - (M : Int) = ((s2.2 - M : Nat) : Int) by omega]
            refine hK2 _ ?_ (fun t i k z => by rw [zo (by unfold zlv at z; omega)]; exact frH t i k z)
            unfold zdmS
            rw [if_neg (by omega)]
            exact zLC_u hlh 15 3 _ _ (by omega) (by omega) rfl
        · rw [show (zset μ' 4 j 1 (H : Int)) 4 j 3 = ((s2.2 : Nat) : Int) by rw [zo (by omega)]; exact c3, z_fix (show (-2147483648 : Int) ≤ ((s2.2 : Nat) : Int) - (M : Int) by omega) (by omega), show ((s2.2 : Nat) : Int) - (M : Int) = ((s2.2 - M : Nat) : Int) by omega]
          refine hK2 _ ?_ frH
          unfold zdmS; rw [if_pos (Or.inr (Or.inr (by omega)))]; exact hlh
    | succ m ih =>
      intro w hw μ' hl hf
      have hg := zmew_g (T := zTT W S1) hp5 hs w (by omega)
      have hfe : ∀ t i k, ¬ zlv t → μ' t i k = μ t i k := fun t i k z => hf t i k (fun y => z y.1)
      have f2 : μ' 3 0 4 = (nW : Int) := by rw [hfe _ _ _ (by unfold zlv; omega)]; exact e2
      have f1 : μ' 3 0 3 = (nP : Int) := by rw [hfe _ _ _ (by unfold zlv; omega)]; exact e1
      have fW : (fun w c => μ' 14 0 (4 * w + c)) = W := by rw [← hW]; funext a b; exact hfe _ _ _ (by unfold zlv; omega)
      refine k_X5_anHour_33 (d + 3) j 0 _ _ μ' K ⟨fun q => absurd q (by omega), fun _ => s_meetThrough d j w nP (by omega) hp5 μ' f1 (S := S1) (M := M) (c := 0 + 25 * w) (by omega) hg hl _ (fun μ2 hl2 hf2 => ?_)⟩
      rw [z_fix (by omega) (by omega)]
      rw [fW] at hl2
      exact ih (w + 1) (by omega) μ2 hl2 (fun t i k z => (hf2 t i k z).trans (hf t i k z))
  exact L nW 0 (by omega) μ1 hl1 hf1
