/-! THE TEXT, clause by clause: the class, more -/
theorem b_under55 (d : Nat) (rr : Int) {μ0 : zM} {L f p : Nat} (hL : L ≤ 240) (K : zM → Prop) (hK : ∀ μ', zBd μ0 L f p μ' → K μ') : ∀ (m : Nat) (cnt : Int) (n : Nat), cnt ≤ 12 → cnt ≤ (n : Int) + (m : Int) → n ≤ 12 → ∀ μ, zBd μ0 L f p μ → zJ (d + 3) m_X7_readUnder 55 [some (zR 2 0), some (zI rr), some (zI cnt), some (zI (n : Int))] μ (zQ0 K) := by
  intro m
  induction m with
  | zero =>
    intro cnt n h12 hm hn μ h
    exact k_X7_readUnder_55 (d + 2) rr cnt n μ K ⟨fun _ => b_expect d 59 (by decide) hL h _ (fun μ1 h1 => hK _ (zBd_put h1 3 5 _ (by omega) (by omega))), fun q => absurd q (by omega)⟩
  | succ m ih =>
    intro cnt n h12 hm hn μ h
    refine k_X7_readUnder_55 (d + 2) rr cnt n μ K ⟨fun _ => b_expect d 59 (by decide) hL h _ (fun μ1 h1 => hK _ (zBd_put h1 3 5 _ (by omega) (by omega))), fun q => ?_⟩
    rw [z_fix (show (-2147483648 : Int) ≤ (n : Int) + 1 by omega) (by omega)]
    exact ⟨fun _ => b_number d 9 hL h _ (fun v μ1 h1 => b_putUnder (d + 1) _ _ _ h1 _ (fun μ2 h2 => ih cnt (n + 1) h12 (by omega) (by omega) μ2 h2)), fun _ => b_expect d 44 (by decide) hL h _ (fun μ1 h1 => b_number d 9 hL h1 _ (fun v μ2 h2 => b_putUnder (d + 1) _ _ _ h2 _ (fun μ3 h3 => ih cnt (n + 1) h12 (by omega) (by omega) μ3 h3)))⟩
theorem zon_b {s : Int} (h : zset12 s) {k j : Nat} (hk : k < 6) (hj : j < 6) : zbit (zon s k) j = if j = k then true else zbit s j := by
  obtain ⟨h0, h1⟩ := h
  unfold zon
  by_cases q : zbit s k = true
  · rw [if_pos q]
    by_cases e : j = k
    · subst e; rw [if_pos rfl]; exact q
    · rw [if_neg e]
  · rw [if_neg q]
    have q2 : ¬ (s / 2 ^ k % 2 = 1) := fun z => q (decide_eq_true z)
    by_cases e : j = k
    · subst e
      rw [if_pos rfl]
      refine decide_eq_true ?_
      rcases (show j = 0 ∨ j = 1 ∨ j = 2 ∨ j = 3 ∨ j = 4 ∨ j = 5 by omega) with rfl | rfl | rfl | rfl | rfl | rfl <;> omega
    · rw [if_neg e]
      have w : (s + 2 ^ k) / 2 ^ j % 2 = s / 2 ^ j % 2 := by
        rcases (show j = 0 ∨ j = 1 ∨ j = 2 ∨ j = 3 ∨ j = 4 ∨ j = 5 by omega) with rfl | rfl | rfl | rfl | rfl | rfl <;> rcases (show k = 0 ∨ k = 1 ∨ k = 2 ∨ k = 3 ∨ k = 4 ∨ k = 5 by omega) with rfl | rfl | rfl | rfl | rfl | rfl <;> omega
      unfold zbit
      rw [w]
theorem c_under55 (d L r Bn : Nat) (u0 : Int) (hL : L ≤ 240) (hr : r < 6) (hBn : Bn ≤ 12) {μ0 : zM} (K : zM → Prop) : ∀ m n : Nat, n + m = Bn → 1 ≤ m → ∀ (a : Nat) (R : Nat → Int) (μ : zM), zGst μ0 L a μ → zDr μ R → μ 3 1 5 = u0 → μ 3 1 0 = 1 → (∀ c e R' μ', zrw (μ0 20 0) L (88 + 12 * r) Bn Bn m n a R = .inr (c, e, R') → zGst μ0 L e μ' → zDr μ' R' → μ' 3 1 5 = u0 → μ' 3 1 0 = 1 → K (zset μ' 3 1 5 (zor (μ' 3 1 5) (zshl 1 (r : Int))))) → (∀ f b μ', zrw (μ0 20 0) L (88 + 12 * r) Bn Bn m n a R = .inl (f, b) → zBd μ0 L f b μ' → K μ') → zC1 (d + 2) m_X7_readNumber [zR 2 0, zI 9] μ (fun x2 μ2 => zC0 (d + 2) m_X1_putUnder [zR 3 1, zI (r : Int), zI (n : Int), zI x2] μ2 (fun μ3 => zJ (d + 3) m_X7_readUnder 55 [some (zR 2 0), some (zI (r : Int)), some (zI (Bn : Int)), some (zI (w32 ((n : Int) + 1)))] μ3 (zQ0 K))) := by
  intro m
  induction m with
  | zero => intro n hn hm; omega
  | succ m ih =>
    intro n hn hm a R μ h hD hu ht h1 h2
    rw [z_fix (show (-2147483648 : Int) ≤ (n : Int) + 1 by omega) (by omega)]
    refine g_number d a L 9 hL h _ (fun v e μ1 hz g2 s _ => ?_) (fun f b v μ1 hz hb => b_putUnder (d + 1) _ _ _ hb _ (fun μ2 hb2 => ?_))
    · rw [zrw_z hz] at h1 h2
      have he := g2.2.2.1
      have hsb := zsb_rg (μ0 20 0) he
      refine k_X1_putUnder (d + 1) 1 _ _ _ μ1 _ ?_
      rw [z_fix (show (-2147483648 : Int) ≤ (r : Int) * 12 by omega) (by omega), z_fix (show (-2147483648 : Int) ≤ (r : Int) * 12 + (n : Int) by omega) (by omega), show (r : Int) * 12 + (n : Int) = ((12 * r + n : Nat) : Int) by omega]
      refine s_put_12 _ 1 (12 * r + n) (by omega) v μ1 _ ?_
      have g3 := zGs_put g2 12 (12 * r + n) v (by omega) (by omega)
      have hD3 := zDr_under (zDr_same s hD) (12 * r + n) (by omega) v
      rw [show 88 + (12 * r + n) = 88 + 12 * r + n by omega] at hD3
      have u3 : (zset μ1 12 1 (12 * r + n) v) 3 1 5 = u0 := by rw [zo (by omega), s _ _ _ (by omega)]; exact hu
      have t3 : (zset μ1 12 1 (12 * r + n) v) 3 1 0 = 1 := by rw [zo (by omega), s _ _ _ (by omega)]; exact ht
      generalize zset μ1 12 1 (12 * r + n) v = ν at g3 hD3 u3 t3 ⊢
      generalize zu R (88 + 12 * r + n) v = R1 at hD3 h1 h2
      refine k_X7_readUnder_55 (d + 2) r Bn ((n : Int) + 1) ν K ⟨fun q => ?_, fun q => ⟨fun z => absurd z (by omega), fun _ => ?_⟩⟩
      · refine g_expect d e L 59 (by decide) hL g3 _ (fun e' μ3 hp g4 s3 => ?_) (fun f b μ3 hp hb => ?_)
        · have hp2 := zPun_r (by decide) hp
          refine h1 (n + 1) e' R1 μ3 ?_ g4 (zDr_same s3 hD3) (by rw [s3 _ _ _ (by omega)]; exact u3) (by rw [s3 _ _ _ (by omega)]; exact t3)
          show (if zlt (μ0 20 0) L (zsb (μ0 20 0) L e) = 44 then _ else if zlt (μ0 20 0) L (zsb (μ0 20 0) L e) = 59 ∧ Bn ≤ n + 1 then _ else _) = _
          rw [if_neg (by omega), if_pos ⟨hp2.2.2, by omega⟩, hp2.1]
        · have hp2 := zPun_f hp
          refine h2 f b _ ?_ (zBd_put hb 3 5 _ (by omega) (by omega))
          rw [hp2.1, hp2.2.1]
          show (if zlt (μ0 20 0) L (zsb (μ0 20 0) L e) = 44 then _ else if zlt (μ0 20 0) L (zsb (μ0 20 0) L e) = 59 ∧ Bn ≤ n + 1 then _ else _) = _
          by_cases q : zlt (μ0 20 0) L (zsb (μ0 20 0) L e) = 44
          · rw [if_pos q, if_pos (by omega)]
          · rw [if_neg q, if_neg (fun z => hp2.2.2 z.1)]
      · refine g_expect d e L 44 (by decide) hL g3 _ (fun e' μ3 hp g4 s3 => ?_) (fun f b μ3 hp hb => ?_)
        · have hp2 := zPun_r (by decide) hp
          have ih2 := ih (n + 1) (by omega) (by omega) e' R1 μ3 g4 (zDr_same s3 hD3) (by rw [s3 _ _ _ (by omega)]; exact u3) (by rw [s3 _ _ _ (by omega)]; exact t3) (fun c e2 R' μ' hw g5 d5 u5 t5 => h1 c e2 R' μ' (by
            show (if zlt (μ0 20 0) L (zsb (μ0 20 0) L e) = 44 then _ else _) = _
            rw [if_pos hp2.2.2, if_neg (by omega), ← hp2.1]; exact hw) g5 d5 u5 t5) (fun f b μ' hw hb => h2 f b μ' (by
            show (if zlt (μ0 20 0) L (zsb (μ0 20 0) L e) = 44 then _ else _) = _
            rw [if_pos hp2.2.2, if_neg (by omega), ← hp2.1]; exact hw) hb)
          exact ih2
        · have hp2 := zPun_f hp
          have hB : zBd μ0 L f b μ3 := hb
          have hK2 : ∀ μ', zBd μ0 L f b μ' → K μ' := fun μ' q => h2 f b μ' (by
            rw [hp2.1, hp2.2.1]
            show (if zlt (μ0 20 0) L (zsb (μ0 20 0) L e) = 44 then _ else if zlt (μ0 20 0) L (zsb (μ0 20 0) L e) = 59 ∧ Bn ≤ n + 1 then _ else _) = _
            rw [if_neg hp2.2.2, if_neg (by omega)]) q
          refine b_number d 9 hL hB _ (fun v2 μ4 h4 => b_putUnder (d + 1) _ _ _ h4 _ (fun μ5 h5 => ?_))
          rw [z_fix (show (-2147483648 : Int) ≤ (n : Int) + 1 + 1 by omega) (by omega), show (n : Int) + 1 + 1 = ((n + 2 : Nat) : Int) by omega]
          exact b_under55 d r hL K hK2 12 Bn (n + 2) (by omega) (by omega) (by omega) μ5 h5
    · rw [zrw_l hz] at h2
      have hK2 : ∀ μ', zBd μ0 L f b μ' → K μ' := fun μ' q => h2 f b μ' rfl q
      rw [show (n : Int) + 1 = ((n + 1 : Nat) : Int) by omega]
      exact b_under55 d r hL K hK2 12 Bn (n + 1) (by omega) (by omega) (by omega) μ2 hb2
theorem c_under (d a L : Nat) (hL : L ≤ 240) (ha : a < L) {μ0 μ : zM} {R : Nat → Int} (h : zGst μ0 L a μ) (hD : zDr μ R) (hU : zDu μ R) (hI : zRI R) (ht : μ 3 1 0 = 1) (K : zM → Prop) (h1 : ∀ e R' μ', zcU (μ0 20 0) L a R = .inr (e, R') → zGst μ0 L e μ' → zDr μ' R' → zDu μ' R' → μ' 3 1 0 = 1 → K μ') (h2 : ∀ f b μ', zcU (μ0 20 0) L a R = .inl (f, b) → zBd μ0 L f b μ' → K μ') : zC0 (d + 4) m_X7_readUnder [zR 2 0] μ K := by
  have i1 := hI.2.1
  unfold zcU at h1 h2
  refine k_X7_readUnder (d + 3) μ K ?_
  rw [zo (by omega), hD.1.2.1, z_fix (show (-2147483648 : Int) ≤ R 1 - 1 by omega) (by omega), h.2.1, z_fix (show (-2147483648 : Int) ≤ (a : Int) + 1 by omega) (by omega), show (a : Int) + 1 = ((a + 1 : Nat) : Int) by omega]
  have s0 : zsame μ (zset μ 2 0 3 ((a + 1 : Nat) : Int)) := zsame_3 (zsame_r μ) _
  refine g_number (d + 1) (a + 1) L (R 1 - 1) hL (zGs_at h (a + 1) (by omega)) _ (fun v e μ1 hz g2 s e4 => ?_) (fun f b v μ1 hz hb => ?_)
  · rw [hz] at h1 h2
    have v1 := zNum_v (show a + 1 ≤ L by omega) hz
    obtain ⟨r, rfl⟩ := Int.eq_ofNat_of_zero_le v1.1
    have hr : r < 6 := by omega
    have sa := zsame_t s0 s
    have hD1 := zDr_same sa hD
    have hU1 := zDu_same sa hU
    have t1 : μ1 3 1 0 = 1 := by rw [sa _ _ _ (by omega)]; exact ht
    have hb1 : μ1 10 1 r = R (4 + r) := hD1.2.1 r hr (by omega)
    have hB := hI.2.2.2.2.1 r hr (by omega)
    refine k_X1_hasUnder (d + 2) 1 r μ1 _ (s_isIn _ (μ1 3 1 5) (zset12_in hU1.1) r (by omega) μ1 _ ?_)
    have hbit := hU1.2 r hr
    by_cases q : zbit (μ1 3 1 5) r = true
    · rw [if_pos q] at hbit ⊢
      refine ⟨Or.inr rfl, fun z => absurd z (by decide), fun _ => g_fail _ e L 4 (by decide) _ (zsb (μ0 20 0) L (a + 1)) e4 g2 _ (fun μ2 hb _ => b_barsOf (d + 2) _ hb _ (fun v2 hv2 => ?_))⟩
      exact b_under55 (d + 1) r hL K (fun μ' q2 => h2 4 (zsb (μ0 20 0) L (a + 1)) μ' (by
        show (if R (10 + ((r : Int)).toNat) = 1 then _ else _) = _
        rw [Int.toNat_natCast, if_pos hbit]) q2) 12 v2 0 hv2 (by omega) (by omega) μ2 hb
    · rw [if_neg q] at hbit ⊢
      refine ⟨Or.inl rfl, fun _ => s_barsOf (d + 2) 1 r hr μ1 _ ?_, fun z => absurd rfl z⟩
      rw [hb1]
      obtain ⟨Bn, hBn⟩ := Int.eq_ofNat_of_zero_le (show 0 ≤ R (4 + r) by omega)
      rw [hBn] at hB ⊢
      have ez : ∀ X : zRs (Nat × Nat × (Nat → Int)), zrw (μ0 20 0) L (88 + 12 * r) Bn Bn Bn 0 e (zu R (10 + r) 1) = X → (if R (10 + ((r : Int)).toNat) = 1 then (.inl (4, zsb (μ0 20 0) L (a + 1)) : zRs (Nat × (Nat → Int))) else zbnd (zrw (μ0 20 0) L (88 + 12 * ((r : Int)).toNat) (R (4 + ((r : Int)).toNat)).toNat (R (4 + ((r : Int)).toNat)).toNat (R (4 + ((r : Int)).toNat)).toNat 0 e (zu R (10 + ((r : Int)).toNat) 1)) fun q' => .inr (q'.2.1, q'.2.2)) = zbnd X fun q' => .inr (q'.2.1, q'.2.2) := by
        intro X hX
        rw [Int.toNat_natCast, hBn, Int.toNat_natCast, if_neg (by omega), hX]
      refine k_X7_readUnder_55 (d + 3) r Bn 0 μ1 K ⟨fun z => absurd z (by omega), fun _ => ⟨fun _ => ?_, fun z => absurd z (by omega)⟩⟩
      refine c_under55 (d + 1) L r Bn (μ1 3 1 5) hL hr (by omega) K Bn 0 (by omega) (by omega) e (zu R (10 + r) 1) μ1 g2 ?_ rfl t1 (fun c e2 R' μ' hw g5 d5 u5 t5 => ?_) (fun f b μ' hw hb => h2 f b μ' ?_ hb)
      · obtain ⟨⟨q1, q2, q3, q4⟩, q5, q6, q7, q8⟩ := hD1
        exact ⟨⟨by rw [zu_o (by omega)]; exact q1, by rw [zu_o (by omega)]; exact q2, by rw [zu_o (by omega)]; exact q3, by rw [zu_o (by omega)]; exact q4⟩, fun x a b => by rw [zu_o (by omega)] at b; rw [zu_o (by omega)]; exact q5 x a b, fun k a => by rw [zu_o (by omega), zu_o (by omega)]; exact q6 k a, fun p w a b c => by rw [zu_o (by omega)] at b; rw [zu_o (by omega)]; exact q7 p w a b c, fun w x a b c => by rw [zu_o (by omega)] at b; rw [zu_o (by omega)]; exact q8 w x a b c⟩
      · obtain ⟨-, -, i3, -⟩ := zrw_iv (most := Bn) Bn 0 e (zu R (10 + r) 1) g2.2.2.1 rfl (by omega) _ _ _ hw
        refine h1 e2 R' _ ((ez _ hw).trans rfl) (zGs_put g5 3 5 _ (by omega) (by omega)) (zDr_cg (fun t k z => by rw [zo (by omega)]) d5) ?_ (by rw [zo (by omega)]; exact t5)
        rw [u5, z_or12 hU1.1 (show r < 12 by omega)]
        refine ⟨by rw [zset_self]; exact z_on12 hU1.1 (by omega), fun j hj => ?_⟩
        rw [zset_self, zon_b hU1.1 hr hj, i3 _ (by omega)]
        by_cases z : j = r
        · subst z; rw [zu_i, if_pos rfl, if_pos rfl]
        · rw [zu_o (by omega), if_neg z]; exact hU1.2 j hj
      · exact (ez _ hw).trans rfl
  · rw [hz] at h2
    have hK2 : ∀ μ', zBd μ0 L f b μ' → K μ' := fun μ' q => h2 f b μ' rfl q
    refine k_X1_hasUnder (d + 2) 1 v μ1 _ (k_X9_isIn _ _ v μ1 _ ?_)
    have no : (0 : Int) = 0 → zC1 (d + 3) m_X1_barsOf [zR 3 1, zI v] μ1 (fun x3 μ3 => zJ (d + 4) m_X7_readUnder 55 [some (zR 2 0), some (zI v), some (zI x3), some (zI 0)] μ3 (zQ0 K)) := fun _ => b_barsOf (d + 2) _ hb _ (fun v2 hv2 => b_under55 (d + 1) v hL K hK2 12 v2 0 hv2 (by omega) (by omega) μ1 hb)
    have n0 : ((0 : Int) = 0 ∨ (0 : Int) = 1) ∧ ((0 : Int) = 0 ∨ (0 : Int) = 1) ∧ ((0 : Int) = 0 → zC1 (d + 3) m_X1_barsOf [zR 3 1, zI v] μ1 (fun x3 μ3 => zJ (d + 4) m_X7_readUnder 55 [some (zR 2 0), some (zI v), some (zI x3), some (zI 0)] μ3 (zQ0 K))) ∧ (¬ ((0 : Int) = 0) → zC0 (d + 3) m_X7_fail [zR 2 0, zI 4, zI (μ1 2 0 4)] μ1 (fun μ4 => zC1 (d + 3) m_X1_barsOf [zR 3 1, zI v] μ4 (fun x5 μ5 => zJ (d + 4) m_X7_readUnder 55 [some (zR 2 0), some (zI v), some (zI x5), some (zI 0)] μ5 (zQ0 K)))) := ⟨Or.inl rfl, Or.inl rfl, no, fun z => absurd rfl z⟩
    refine ⟨fun _ => n0, fun _ => ⟨fun _ => n0, fun _ => ⟨fun _ => n0, fun _ => ⟨Or.inr rfl, Or.inr rfl, fun z => absurd z (by decide), fun _ => b_fail _ 4 _ hb _ (fun μ4 h4 => b_barsOf (d + 2) _ h4 _ (fun v2 hv2 => b_under55 (d + 1) v hL K hK2 12 v2 0 hv2 (by omega) (by omega) μ4 h4))⟩⟩⟩⟩
/-- all as in ν but where the reader stands -/
def zeq2 (ν μ : zM) : Prop := ∀ t i k, t ≠ 2 → μ t i k = ν t i k
theorem zeq2_same {ν μ μ' : zM} (h : zeq2 ν μ) (s : zsame μ μ') : zeq2 ν μ' := fun t i k q => by rw [s t i k (by omega)]; exact h t i k q
theorem zeq2_put {ν μ : zM} (h : zeq2 ν μ) (t i k : Nat) (v : Int) : zeq2 (zset ν t i k v) (zset μ t i k v) := fun t' i' k' q => by
  unfold zset
  split
  · rfl
  · exact h t' i' k' q
theorem g_putPerson (d n w : Nat) (hn : n < 5) (hw : w < 3) (v : Int) (μ : zM) (e : μ 3 1 3 = (n : Int)) (K : zM → Prop) (h : K (zset μ 13 1 (3 * n + w) v)) : zC0 (d + 1) m_X1_putPerson [zR 3 1, zI (w : Int), zI v] μ K := by
  refine k_X1_putPerson d 1 w v μ K ?_
  rw [e, z_fix (show (-2147483648 : Int) ≤ (n : Int) * 3 by omega) (by omega), z_fix (show (-2147483648 : Int) ≤ (n : Int) * 3 + (w : Int) by omega) (by omega), show (n : Int) * 3 + (w : Int) = ((3 * n + w : Nat) : Int) by omega]
  exact s_put_13 d 1 (3 * n + w) (by omega) v μ _ h
theorem g_putWall (d n w : Nat) (hn : n < 6) (hw : w < 4) (v : Int) (μ : zM) (e : μ 3 1 4 = (n : Int)) (K : zM → Prop) (h : K (zset μ 14 1 (4 * n + w) v)) : zC0 (d + 1) m_X1_putWall [zR 3 1, zI (w : Int), zI v] μ K := by
  refine k_X1_putWall d 1 w v μ K ?_
  rw [e, z_fix (show (-2147483648 : Int) ≤ (n : Int) * 4 by omega) (by omega), z_fix (show (-2147483648 : Int) ≤ (n : Int) * 4 + (w : Int) by omega) (by omega), show (n : Int) * 4 + (w : Int) = ((4 * n + w : Nat) : Int) by omega]
  exact s_put_14 d 1 (4 * n + w) (by omega) v μ _ h
theorem zDu_eq {μ μ' : zM} {R R' : Nat → Int} (e : μ' 3 1 5 = μ 3 1 5) (g : ∀ r, r < 6 → R' (10 + r) = R (10 + r)) (q : zDu μ R) : zDu μ' R' := by
  unfold zDu at q ⊢
  rw [e]
  exact ⟨q.1, fun r hr => by rw [g r hr]; exact q.2 r hr⟩
theorem c_person (d a L : Nat) (hL : L ≤ 240) (ha : a < L) {μ0 μ : zM} {R : Nat → Int} (h : zGst μ0 L a μ) (hD : zDr μ R) (hU : zDu μ R) (hI : zRI R) (ht : μ 3 1 0 = 1) (K : zM → Prop) (h1 : ∀ e R' μ', zcP (μ0 20 0) L a R = .inr (e, R') → zGst μ0 L e μ' → zDr μ' R' → zDu μ' R' → μ' 3 1 0 = 1 → K μ') (h2 : ∀ f b μ', zcP (μ0 20 0) L a R = .inl (f, b) → zBd μ0 L f b μ' → K μ') : zC0 (d + 4) m_X7_readPerson [zR 2 0] μ K := by
  have i1 := hI.2.1
  have i3 := hI.2.2.1
  obtain ⟨pn, hpn⟩ := Int.eq_ofNat_of_zero_le i3.1
  have eP : μ 3 1 3 = (pn : Int) := by rw [hD.1.2.2.1]; exact hpn
  unfold zcP at h1 h2
  rw [hpn, Int.toNat_natCast] at h1 h2
  refine k_X7_readPerson (d + 3) μ K ⟨fun q5 => ?_, fun q5 => g_fail _ a L 3 (by decide) _ a h.2.1 h _ (fun μ1 hb e1 => ?_)⟩
  · rw [eP] at q5
    rw [if_neg (show ¬ (pn : Int) = 5 by omega)] at h1 h2
    rw [zo (by omega), hD.1.2.1, z_fix (show (-2147483648 : Int) ≤ R 1 - 1 by omega) (by omega), h.2.1, z_fix (show (-2147483648 : Int) ≤ (a : Int) + 1 by omega) (by omega), show (a : Int) + 1 = ((a + 1 : Nat) : Int) by omega]
    have s0 : zsame μ (zset μ 2 0 3 ((a + 1 : Nat) : Int)) := zsame_3 (zsame_r μ) _
    have q0 : zeq2 μ μ := fun _ _ _ _ => rfl
    refine g_number (d + 1) (a + 1) L (R 1 - 1) hL (zGs_at h (a + 1) (by omega)) _ (fun u1 x1 μ1 hz1 g1 s1 _ => ?_) (fun f b w0 m0 hz k0 => ?_)
    · rw [hz1] at h1 h2
      have v1 := zNum_v (show a + 1 ≤ L by omega) hz1
      obtain ⟨r, rfl⟩ := Int.eq_ofNat_of_zero_le v1.1
      have q1 := zeq2_same q0 (zsame_t s0 s1)
      refine g_putPerson (d + 2) pn 0 (by omega) (by omega) _ μ1 (by rw [q1 _ _ _ (by omega)]; exact eP) _ ?_
      have g1' := zGs_put g1 13 (3 * pn + 0) (r : Int) (by omega) (by omega)
      have q1' := zeq2_put q1 13 1 (3 * pn + 0) (r : Int)
      generalize zset μ1 13 1 (3 * pn + 0) (r : Int) = μ2 at g1' q1' ⊢
      have er : μ2 10 1 r = R (4 + r) := by rw [q1' _ _ _ (by omega), zo (by omega)]; exact hD.2.1 r (by omega) (by omega)
      have hB := hI.2.2.2.2.1 r (by omega) (by omega)
      refine s_barsOf (d + 2) 1 r (by omega) μ2 _ ?_
      rw [er, z_fix (show (-2147483648 : Int) ≤ R (4 + r) - 1 by omega) (by omega)]
      have en : ((r : Int)).toNat = r := Int.toNat_natCast r
      refine g_number (d + 1) x1 L (R (4 + r) - 1) hL g1' _ (fun u2 x2 μ3 hz2 g2 s2 _ => ?_) (fun f b w3 m3 hz k3 => ?_)
      · have v2 := zNum_v v1.2.2.2.2 hz2
        have q2 := zeq2_same q1' s2
        refine g_putPerson (d + 2) pn 1 (by omega) (by omega) _ μ3 (by rw [q2 _ _ _ (by omega), zo (by omega)]; exact eP) _ ?_
        have g2' := zGs_put g2 13 (3 * pn + 1) u2 (by omega) (by omega)
        have q2' := zeq2_put q2 13 1 (3 * pn + 1) u2
        generalize zset μ3 13 1 (3 * pn + 1) u2 = μ4 at g2' q2' ⊢
        refine g_number (d + 1) x2 L 9 hL g2' _ (fun u3 x3 μ5 hz3 g3 s3 _ => ?_) (fun f b w5 m5 hz k5 => ?_)
        · have v3 := zNum_v v2.2.2.2.2 hz3
          have q3 := zeq2_same q2' s3
          refine g_putPerson (d + 2) pn 2 (by omega) (by omega) _ μ5 (by rw [q3 _ _ _ (by omega), zo (by omega), zo (by omega)]; exact eP) _ ?_
          have g3' := zGs_put g3 13 (3 * pn + 2) u3 (by omega) (by omega)
          have q3' := zeq2_put q3 13 1 (3 * pn + 2) u3
          generalize zset μ5 13 1 (3 * pn + 2) u3 = μ6 at g3' q3' ⊢
          refine g_expect (d + 1) x3 L 59 (by decide) hL g3' _ (fun x4 μ7 hp g4 s4 => ?_) (fun f b μ7 hp k7 => ?_)
          · have q4 := zeq2_same q3' s4
            have e7 : μ7 3 1 3 = (pn : Int) := by rw [q4 _ _ _ (by omega), zo (by omega), zo (by omega), zo (by omega)]; exact eP
            rw [e7, z_fix (by omega) (by omega)]
            have q5' := zeq2_put q4 3 1 3 ((pn : Int) + 1)
            rw [show 3 * pn + 0 = 3 * pn by omega] at q5'
            refine h1 x4 _ _ ?_ (zGs_put g4 3 3 _ (by omega) (by omega)) (zDr_cg (fun t k z => q5' t 1 k (by omega)) (zDr_person hD (show pn < 5 by omega) hpn (r : Int) u2 u3)) (zDu_eq ?_ (fun s hs => ?_) hU) ?_
            · show zbnd (zNum (μ0 20 0) L x1 (R (4 + ((r : Int)).toNat) - 1)) _ = _
              rw [en, hz2]
              show zbnd (zNum (μ0 20 0) L x2 9) _ = _
              rw [hz3]
              show zbnd (zPun (μ0 20 0) L x3 59) _ = _
              rw [hp]; rfl
            · rw [q5' _ _ _ (by omega), zo (by omega), zo (by omega), zo (by omega), zo (by omega)]
            · rw [zu_o (by omega), zu_o (by omega), zu_o (by omega), zu_o (by omega)]
            · rw [q5' _ _ _ (by omega), zo (by omega), zo (by omega), zo (by omega), zo (by omega)]; exact ht
          · refine h2 f b _ ?_ (zBd_put k7 3 3 _ (by omega) (by omega))
            show zbnd (zNum (μ0 20 0) L x1 (R (4 + ((r : Int)).toNat) - 1)) _ = _
            rw [en, hz2]
            show zbnd (zNum (μ0 20 0) L x2 9) _ = _
            rw [hz3]
            show zbnd (zPun (μ0 20 0) L x3 59) _ = _
            rw [hp]; rfl
        · have hK2 : ∀ μ', zBd μ0 L f b μ' → K μ' := fun μ' y => h2 f b μ' (by
            show zbnd (zNum (μ0 20 0) L x1 (R (4 + ((r : Int)).toNat) - 1)) _ = _
            rw [en, hz2]
            show zbnd (zNum (μ0 20 0) L x2 9) _ = _
            rw [hz]; rfl) y
          exact b_putPerson (d + 2) _ _ k5 _ (fun m6 k6 => b_expect (d + 1) 59 (by decide) hL k6 _ (fun m7 k7 => hK2 _ (zBd_put k7 3 3 _ (by omega) (by omega))))
      · have hK2 : ∀ μ', zBd μ0 L f b μ' → K μ' := fun μ' y => h2 f b μ' (by
          show zbnd (zNum (μ0 20 0) L x1 (R (4 + ((r : Int)).toNat) - 1)) _ = _
          rw [en, hz]; rfl) y
        exact b_putPerson (d + 2) _ _ k3 _ (fun m4 k4 => b_number (d + 1) _ hL k4 _ (fun w5 m5 k5 => b_putPerson (d + 2) _ _ k5 _ (fun m6 k6 => b_expect (d + 1) 59 (by decide) hL k6 _ (fun m7 k7 => hK2 _ (zBd_put k7 3 3 _ (by omega) (by omega))))))
    · have hK2 : ∀ μ', zBd μ0 L f b μ' → K μ' := fun μ' y => h2 f b μ' (by rw [hz]; rfl) y
      exact b_putPerson (d + 2) _ _ k0 _ (fun m1 k1 => b_barsOf (d + 2) _ k1 _ (fun w2 _ => b_number (d + 1) _ hL k1 _ (fun w3 m3 k3 => b_putPerson (d + 2) _ _ k3 _ (fun m4 k4 => b_number (d + 1) _ hL k4 _ (fun w5 m5 k5 => b_putPerson (d + 2) _ _ k5 _ (fun m6 k6 => b_expect (d + 1) 59 (by decide) hL k6 _ (fun m7 k7 => hK2 _ (zBd_put k7 3 3 _ (by omega) (by omega)))))))))
  · rw [eP] at q5
    rw [if_pos (show (pn : Int) = 5 by omega)] at h2
    have hK2 : ∀ μ', zBd μ0 L 3 a μ' → K μ' := fun μ' y => h2 3 a μ' rfl y
    rw [e1, z_fix (show (-2147483648 : Int) ≤ (a : Int) + 1 by omega) (by omega), show (a : Int) + 1 = ((a + 1 : Nat) : Int) by omega]
    have kk := zBd_at hb (a + 1) (by omega)
    exact b_number (d + 1) _ hL kk _ (fun w0 m0 k0 => b_putPerson (d + 2) _ _ k0 _ (fun m1 k1 => b_barsOf (d + 2) _ k1 _ (fun w2 _ => b_number (d + 1) _ hL k1 _ (fun w3 m3 k3 => b_putPerson (d + 2) _ _ k3 _ (fun m4 k4 => b_number (d + 1) _ hL k4 _ (fun w5 m5 k5 => b_putPerson (d + 2) _ _ k5 _ (fun m6 k6 => b_expect (d + 1) 59 (by decide) hL k6 _ (fun m7 k7 => hK2 _ (zBd_put k7 3 3 _ (by omega) (by omega))))))))))
theorem c_wall (d a L : Nat) (hL : L ≤ 240) (ha : a < L) {μ0 μ : zM} {R : Nat → Int} (h : zGst μ0 L a μ) (hD : zDr μ R) (hU : zDu μ R) (hI : zRI R) (ht : μ 3 1 0 = 1) (K : zM → Prop) (h1 : ∀ e R' μ', zcW (μ0 20 0) L a R = .inr (e, R') → zGst μ0 L e μ' → zDr μ' R' → zDu μ' R' → μ' 3 1 0 = 1 → K μ') (h2 : ∀ f b μ', zcW (μ0 20 0) L a R = .inl (f, b) → zBd μ0 L f b μ' → K μ') : zC0 (d + 4) m_X7_readWall [zR 2 0] μ K := by
  have i1 := hI.2.1
  have i3 := hI.2.2.2.1
  obtain ⟨pn, hpn⟩ := Int.eq_ofNat_of_zero_le i3.1
  have eP : μ 3 1 4 = (pn : Int) := by rw [hD.1.2.2.2]; exact hpn
  unfold zcW at h1 h2
  rw [hpn, Int.toNat_natCast] at h1 h2
  refine k_X7_readWall (d + 3) μ K ⟨fun q5 => ?_, fun q5 => g_fail _ a L 3 (by decide) _ a h.2.1 h _ (fun μ1 hb e1 => ?_)⟩
  · rw [eP] at q5
    rw [if_neg (show ¬ (pn : Int) = 6 by omega)] at h1 h2
    rw [zo (by omega), hD.1.2.1, z_fix (show (-2147483648 : Int) ≤ R 1 - 1 by omega) (by omega), h.2.1, z_fix (show (-2147483648 : Int) ≤ (a : Int) + 1 by omega) (by omega), show (a : Int) + 1 = ((a + 1 : Nat) : Int) by omega]
    have s0 : zsame μ (zset μ 2 0 3 ((a + 1 : Nat) : Int)) := zsame_3 (zsame_r μ) _
    have q0 : zeq2 μ μ := fun _ _ _ _ => rfl
    refine g_number (d + 1) (a + 1) L (R 1 - 1) hL (zGs_at h (a + 1) (by omega)) _ (fun u1 x1 μ1 hz1 g1 s1 _ => ?_) (fun f b w0 m0 hz k0 => ?_)
    · rw [hz1] at h1 h2
      have v1 := zNum_v (show a + 1 ≤ L by omega) hz1
      obtain ⟨r, rfl⟩ := Int.eq_ofNat_of_zero_le v1.1
      have q1 := zeq2_same q0 (zsame_t s0 s1)
      refine g_putWall (d + 2) pn 0 (by omega) (by omega) _ μ1 (by rw [q1 _ _ _ (by omega)]; exact eP) _ ?_
      have g1' := zGs_put g1 14 (4 * pn + 0) (r : Int) (by omega) (by omega)
      have q1' := zeq2_put q1 14 1 (4 * pn + 0) (r : Int)
      generalize zset μ1 14 1 (4 * pn + 0) (r : Int) = μ2 at g1' q1' ⊢
      have er : μ2 10 1 r = R (4 + r) := by rw [q1' _ _ _ (by omega), zo (by omega)]; exact hD.2.1 r (by omega) (by omega)
      have hB := hI.2.2.2.2.1 r (by omega) (by omega)
      refine s_barsOf (d + 2) 1 r (by omega) μ2 _ ?_
      rw [er, z_fix (show (-2147483648 : Int) ≤ R (4 + r) - 1 by omega) (by omega)]
      have en : ((r : Int)).toNat = r := Int.toNat_natCast r
      refine g_number (d + 1) x1 L (R (4 + r) - 1) hL g1' _ (fun u2 x2 μ3 hz2 g2 s2 _ => ?_) (fun f b w3 m3 hz k3 => ?_)
      · have v2 := zNum_v v1.2.2.2.2 hz2
        have q2 := zeq2_same q1' s2
        refine g_putWall (d + 2) pn 1 (by omega) (by omega) _ μ3 (by rw [q2 _ _ _ (by omega), zo (by omega)]; exact eP) _ ?_
        have g2' := zGs_put g2 14 (4 * pn + 1) u2 (by omega) (by omega)
        have q2' := zeq2_put q2 14 1 (4 * pn + 1) u2
        generalize zset μ3 14 1 (4 * pn + 1) u2 = μ4 at g2' q2' ⊢
        have eR4 : μ4 3 1 2 = R 1 := by rw [q2' _ _ _ (by omega), zo (by omega), zo (by omega)]; exact hD.1.2.1
        rw [eR4, z_fix (show (-2147483648 : Int) ≤ R 1 - 1 by omega) (by omega)]
        refine g_number (d + 1) x2 L (R 1 - 1) hL g2' _ (fun u3 x3 μ5 hz3 g3 s3 e4 => ?_) (fun f b w5 m5 hz k5 => ?_)
        · have v3 := zNum_v v2.2.2.2.2 hz3
          obtain ⟨t, rfl⟩ := Int.eq_ofNat_of_zero_le v3.1
          have et : ((t : Int)).toNat = t := Int.toNat_natCast t
          have q3 := zeq2_same q2' s3
          refine ⟨fun y7 => ?_, fun y7 => g_fail _ x3 L 4 (by decide) _ (zsb (μ0 20 0) L x2) e4 g3 _ (fun m30 k30 _ => ?_)⟩
          · refine g_putWall (d + 2) pn 2 (by omega) (by omega) _ μ5 (by rw [q3 _ _ _ (by omega), zo (by omega), zo (by omega)]; exact eP) _ ?_
            have g3' := zGs_put g3 14 (4 * pn + 2) (t : Int) (by omega) (by omega)
            have q3' := zeq2_put q3 14 1 (4 * pn + 2) (t : Int)
            generalize zset μ5 14 1 (4 * pn + 2) (t : Int) = μ6 at g3' q3' ⊢
            have er6 : μ6 10 1 t = R (4 + t) := by rw [q3' _ _ _ (by omega), zo (by omega), zo (by omega), zo (by omega)]; exact hD.2.1 t (by omega) (by omega)
            have hB6 := hI.2.2.2.2.1 t (by omega) (by omega)
            refine s_barsOf (d + 2) 1 t (by omega) μ6 _ ?_
            rw [er6, z_fix (show (-2147483648 : Int) ≤ R (4 + t) - 1 by omega) (by omega)]
            refine g_number (d + 1) x3 L (R (4 + t) - 1) hL g3' _ (fun u4 x4 μ7 hz4 g4 s4 _ => ?_) (fun f b w22 m22 hz k22 => ?_)
            · have q4 := zeq2_same q3' s4
              refine g_putWall (d + 2) pn 3 (by omega) (by omega) _ μ7 (by rw [q4 _ _ _ (by omega), zo (by omega), zo (by omega), zo (by omega)]; exact eP) _ ?_
              have g4' := zGs_put g4 14 (4 * pn + 3) u4 (by omega) (by omega)
              have q4' := zeq2_put q4 14 1 (4 * pn + 3) u4
              generalize zset μ7 14 1 (4 * pn + 3) u4 = μ8 at g4' q4' ⊢
              refine g_expect (d + 1) x4 L 59 (by decide) hL g4' _ (fun x5 μ9 hp g5 s5 => ?_) (fun f b μ9 hp k9 => ?_)
              · have q5a := zeq2_same q4' s5
                have e9 : μ9 3 1 4 = (pn : Int) := by rw [q5a _ _ _ (by omega), zo (by omega), zo (by omega), zo (by omega), zo (by omega)]; exact eP
                rw [e9, z_fix (by omega) (by omega)]
                have q5' := zeq2_put q5a 3 1 4 ((pn : Int) + 1)
                rw [show 4 * pn + 0 = 4 * pn by omega] at q5'
                refine h1 x5 _ _ ?_ (zGs_put g5 3 4 _ (by omega) (by omega)) (zDr_cg (fun t k z => q5' t 1 k (by omega)) (zDr_wall hD (show pn < 6 by omega) hpn (r : Int) u2 (t : Int) u4)) (zDu_eq ?_ (fun s hs => ?_) hU) ?_
                · show zbnd (zNum (μ0 20 0) L x1 (R (4 + ((r : Int)).toNat) - 1)) _ = _
                  rw [en, hz2]
                  show zbnd (zNum (μ0 20 0) L x2 (R 1 - 1)) _ = _
                  rw [hz3]
                  show (if (t : Int) = (r : Int) then _ else zbnd (zNum (μ0 20 0) L x3 (R (4 + ((t : Int)).toNat) - 1)) _) = _
                  rw [if_neg y7, et, hz4]
                  show zbnd (zPun (μ0 20 0) L x4 59) _ = _
                  rw [hp]; rfl
                · rw [q5' _ _ _ (by omega), zo (by omega), zo (by omega), zo (by omega), zo (by omega), zo (by omega)]
                · rw [zu_o (by omega), zu_o (by omega), zu_o (by omega), zu_o (by omega), zu_o (by omega)]
                · rw [q5' _ _ _ (by omega), zo (by omega), zo (by omega), zo (by omega), zo (by omega), zo (by omega)]; exact ht
              · refine h2 f b _ ?_ (zBd_put k9 3 4 _ (by omega) (by omega))
                show zbnd (zNum (μ0 20 0) L x1 (R (4 + ((r : Int)).toNat) - 1)) _ = _
                rw [en, hz2]
                show zbnd (zNum (μ0 20 0) L x2 (R 1 - 1)) _ = _
                rw [hz3]
                show (if (t : Int) = (r : Int) then _ else zbnd (zNum (μ0 20 0) L x3 (R (4 + ((t : Int)).toNat) - 1)) _) = _
                rw [if_neg y7, et, hz4]
                show zbnd (zPun (μ0 20 0) L x4 59) _ = _
                rw [hp]; rfl
            · have hK2 : ∀ μ', zBd μ0 L f b μ' → K μ' := fun μ' y => h2 f b μ' (by
                show zbnd (zNum (μ0 20 0) L x1 (R (4 + ((r : Int)).toNat) - 1)) _ = _
                rw [en, hz2]
                show zbnd (zNum (μ0 20 0) L x2 (R 1 - 1)) _ = _
                rw [hz3]
                show (if (t : Int) = (r : Int) then _ else zbnd (zNum (μ0 20 0) L x3 (R (4 + ((t : Int)).toNat) - 1)) _) = _
                rw [if_neg y7, et, hz]; rfl) y
              exact b_putWall (d + 2) _ _ k22 _ (fun m23 k23 => b_expect (d + 1) 59 (by decide) hL k23 _ (fun m24 k24 => hK2 _ (zBd_put k24 3 4 _ (by omega) (by omega))))
          · have hK2 : ∀ μ', zBd μ0 L 4 (zsb (μ0 20 0) L x2) μ' → K μ' := fun μ' y => h2 4 (zsb (μ0 20 0) L x2) μ' (by
              show zbnd (zNum (μ0 20 0) L x1 (R (4 + ((r : Int)).toNat) - 1)) _ = _
              rw [en, hz2]
              show zbnd (zNum (μ0 20 0) L x2 (R 1 - 1)) _ = _
              rw [hz3]
              show (if (t : Int) = (r : Int) then _ else _) = _
              rw [if_pos (Classical.byContradiction y7)]) y
            exact b_putWall (d + 2) _ _ k30 _ (fun m20 k20 => b_barsOf (d + 2) _ k20 _ (fun w21 _ => b_number (d + 1) _ hL k20 _ (fun w22 m22 k22 => b_putWall (d + 2) _ _ k22 _ (fun m23 k23 => b_expect (d + 1) 59 (by decide) hL k23 _ (fun m24 k24 => hK2 _ (zBd_put k24 3 4 _ (by omega) (by omega)))))))
        · have hK2 : ∀ μ', zBd μ0 L f b μ' → K μ' := fun μ' y => h2 f b μ' (by
            show zbnd (zNum (μ0 20 0) L x1 (R (4 + ((r : Int)).toNat) - 1)) _ = _
            rw [en, hz2]
            show zbnd (zNum (μ0 20 0) L x2 (R 1 - 1)) _ = _
            rw [hz]; rfl) y
          exact ⟨fun _ => b_putWall (d + 2) _ _ k5 _ (fun m20 k20 => b_barsOf (d + 2) _ k20 _ (fun w21 _ => b_number (d + 1) _ hL k20 _ (fun w22 m22 k22 => b_putWall (d + 2) _ _ k22 _ (fun m23 k23 => b_expect (d + 1) 59 (by decide) hL k23 _ (fun m24 k24 => hK2 _ (zBd_put k24 3 4 _ (by omega) (by omega))))))), fun _ => b_fail _ 4 _ k5 _ (fun m30 k30 => b_putWall (d + 2) _ _ k30 _ (fun m20 k20 => b_barsOf (d + 2) _ k20 _ (fun w21 _ => b_number (d + 1) _ hL k20 _ (fun w22 m22 k22 => b_putWall (d + 2) _ _ k22 _ (fun m23 k23 => b_expect (d + 1) 59 (by decide) hL k23 _ (fun m24 k24 => hK2 _ (zBd_put k24 3 4 _ (by omega) (by omega))))))))⟩
      · have hK2 : ∀ μ', zBd μ0 L f b μ' → K μ' := fun μ' y => h2 f b μ' (by
          show zbnd (zNum (μ0 20 0) L x1 (R (4 + ((r : Int)).toNat) - 1)) _ = _
          rw [en, hz]; rfl) y
        exact b_putWall (d + 2) _ _ k3 _ (fun m4 k4 => b_number (d + 1) _ hL k4 _ (fun w5 m5 k5 => ⟨fun _ => b_putWall (d + 2) _ _ k5 _ (fun m20 k20 => b_barsOf (d + 2) _ k20 _ (fun w21 _ => b_number (d + 1) _ hL k20 _ (fun w22 m22 k22 => b_putWall (d + 2) _ _ k22 _ (fun m23 k23 => b_expect (d + 1) 59 (by decide) hL k23 _ (fun m24 k24 => hK2 _ (zBd_put k24 3 4 _ (by omega) (by omega))))))), fun _ => b_fail _ 4 _ k5 _ (fun m30 k30 => b_putWall (d + 2) _ _ k30 _ (fun m20 k20 => b_barsOf (d + 2) _ k20 _ (fun w21 _ => b_number (d + 1) _ hL k20 _ (fun w22 m22 k22 => b_putWall (d + 2) _ _ k22 _ (fun m23 k23 => b_expect (d + 1) 59 (by decide) hL k23 _ (fun m24 k24 => hK2 _ (zBd_put k24 3 4 _ (by omega) (by omega))))))))⟩))
    · have hK2 : ∀ μ', zBd μ0 L f b μ' → K μ' := fun μ' y => h2 f b μ' (by rw [hz]; rfl) y
      exact b_putWall (d + 2) _ _ k0 _ (fun m1 k1 => b_barsOf (d + 2) _ k1 _ (fun w2 _ => b_number (d + 1) _ hL k1 _ (fun w3 m3 k3 => b_putWall (d + 2) _ _ k3 _ (fun m4 k4 => b_number (d + 1) _ hL k4 _ (fun w5 m5 k5 => ⟨fun _ => b_putWall (d + 2) _ _ k5 _ (fun m20 k20 => b_barsOf (d + 2) _ k20 _ (fun w21 _ => b_number (d + 1) _ hL k20 _ (fun w22 m22 k22 => b_putWall (d + 2) _ _ k22 _ (fun m23 k23 => b_expect (d + 1) 59 (by decide) hL k23 _ (fun m24 k24 => hK2 _ (zBd_put k24 3 4 _ (by omega) (by omega))))))), fun _ => b_fail _ 4 _ k5 _ (fun m30 k30 => b_putWall (d + 2) _ _ k30 _ (fun m20 k20 => b_barsOf (d + 2) _ k20 _ (fun w21 _ => b_number (d + 1) _ hL k20 _ (fun w22 m22 k22 => b_putWall (d + 2) _ _ k22 _ (fun m23 k23 => b_expect (d + 1) 59 (by decide) hL k23 _ (fun m24 k24 => hK2 _ (zBd_put k24 3 4 _ (by omega) (by omega))))))))⟩)))))
  · rw [eP] at q5
    rw [if_pos (show (pn : Int) = 6 by omega)] at h2
    have hK2 : ∀ μ', zBd μ0 L 3 a μ' → K μ' := fun μ' y => h2 3 a μ' rfl y
    rw [e1, z_fix (show (-2147483648 : Int) ≤ (a : Int) + 1 by omega) (by omega), show (a : Int) + 1 = ((a + 1 : Nat) : Int) by omega]
    have kk := zBd_at hb (a + 1) (by omega)
    exact b_number (d + 1) _ hL kk _ (fun w0 m0 k0 => b_putWall (d + 2) _ _ k0 _ (fun m1 k1 => b_barsOf (d + 2) _ k1 _ (fun w2 _ => b_number (d + 1) _ hL k1 _ (fun w3 m3 k3 => b_putWall (d + 2) _ _ k3 _ (fun m4 k4 => b_number (d + 1) _ hL k4 _ (fun w5 m5 k5 => ⟨fun _ => b_putWall (d + 2) _ _ k5 _ (fun m20 k20 => b_barsOf (d + 2) _ k20 _ (fun w21 _ => b_number (d + 1) _ hL k20 _ (fun w22 m22 k22 => b_putWall (d + 2) _ _ k22 _ (fun m23 k23 => b_expect (d + 1) 59 (by decide) hL k23 _ (fun m24 k24 => hK2 _ (zBd_put k24 3 4 _ (by omega) (by omega))))))), fun _ => b_fail _ 4 _ k5 _ (fun m30 k30 => b_putWall (d + 2) _ _ k30 _ (fun m20 k20 => b_barsOf (d + 2) _ k20 _ (fun w21 _ => b_number (d + 1) _ hL k20 _ (fun w22 m22 k22 => b_putWall (d + 2) _ _ k22 _ (fun m23 k23 => b_expect (d + 1) 59 (by decide) hL k23 _ (fun m24 k24 => hK2 _ (zBd_put k24 3 4 _ (by omega) (by omega))))))))⟩))))))
