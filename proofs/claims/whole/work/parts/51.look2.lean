/-! LOOK AT (model) -/
theorem s_mgreat (e0 : Nat) (d : Nat) (hd : d < 12) (μ : zM) {n : Nat} {B : Nat → Nat} (hH : zHm μ n B) (hL : zLm μ 0) {N : Nat} (hN : N ≤ 6) (e : μ 9 0 13 = (N : Int)) (hD : ∀ k, k < N → 0 ≤ μ 39 0 (2 * k) ∧ μ 39 0 (2 * k) ≤ 11) (G : Nat → Nat → Bool) (hG : zfit (rM μ 0) B N (fun k => μ 39 0 (2 * k)) (fun k => μ 39 0 (2 * k + 1)) = G) (K : Int → zM → Prop) (h : ∀ μ', zag 41 μ μ' → K (zmxv (zvlv (rM μ 0) B d (zpl G B n)) (zpl G B n).length) μ') : zC1 (e0 + 4) m_X12_greatestPart [zR 9 0, zI (d : Int)] μ K := by
  have hH0 := hH
  obtain ⟨e1, e2, e3, -⟩ := hH
  have hB : ∀ r, r < n → B r ≤ 12 := fun r hr => (e3 r hr).2.2
  have hlen := zpl_len G B n hB
  refine k_X12_greatestPart (e0 + 3) d μ K ?_
  have fr : ∀ μ', zag 41 μ μ' → zHm μ' n B ∧ zLm μ' 0 ∧ μ' 9 0 13 = (N : Int) ∧ (∀ k, k < N → 0 ≤ μ' 39 0 (2 * k) ∧ μ' 39 0 (2 * k) ≤ 11) ∧ zfit (rM μ' 0) B N (fun k => μ' 39 0 (2 * k)) (fun k => μ' 39 0 (2 * k + 1)) = G ∧ rM μ' 0 = rM μ 0 := by
    intro μ' ha
    have c39 : μ' 39 0 = μ 39 0 := by funext k; exact ha _ _ _ (by omega)
    have cr : rM μ' 0 = rM μ 0 := rM_cg (fun k => ha _ _ _ (by omega)) (fun k => ha _ _ _ (by omega))
    refine ⟨zHm_cg (fun k => ha _ _ _ (by omega)) hH0, zLm_cg (fun k => ha _ _ _ (by omega)) hL, by rw [ha _ _ _ (by omega)]; exact e, ?_, ?_, cr⟩
    · rw [c39]; exact hD
    · rw [cr, c39]; exact hG
  have L2 : ∀ m r : Nat, r + m = n → ∀ μ', zag 41 μ μ' → (∀ y : Nat, y < 10 → μ' 41 0 y = zcnv (zvlv (rM μ 0) B d (zpl G B n)) (y : Int) (zpl G B r).length) → zJ (e0 + 4) m_X12_greatestPart 25 [some (zR 9 0), some (zI (d : Int)), some (zI (zmxv (zvlv (rM μ 0) B d (zpl G B n)) (zpl G B r).length)), some (zI (r : Int)), none, none] μ' (zQ1 K) := by
    intro m
    induction m with
    | zero =>
      intro r hr μ' ha hc
      obtain ⟨f1, -⟩ := fr μ' ha
      have f2 := f1.1
      refine k_X12_greatestPart_25 (e0 + 3) d _ r μ' K ⟨by omega, fun _ => ?_, fun q => absurd q (by omega)⟩
      rw [show r = n by omega]
      exact h μ' ha
    | succ m ih =>
      intro r hr μ' ha hc
      obtain ⟨f1, -⟩ := fr μ' ha
      have f2 := f1.1
      have hBr := hB r (by omega)
      refine k_X12_greatestPart_25 (e0 + 3) d _ r μ' K ⟨by omega, fun q => absurd q (by omega), fun _ => ?_⟩
      have L3 : ∀ m2 b : Nat, b + m2 = B r → ∀ μ', zag 41 μ μ' → (∀ y : Nat, y < 10 → μ' 41 0 y = zcnv (zvlv (rM μ 0) B d (zpl G B n)) (y : Int) (zpl G B r ++ zps G r b).length) → zJ (e0 + 4) m_X12_greatestPart 38 [some (zR 9 0), some (zI (d : Int)), some (zI (zmxv (zvlv (rM μ 0) B d (zpl G B n)) (zpl G B r ++ zps G r b).length)), some (zI (r : Int)), some (zI (b : Int)), none] μ' (zQ1 K) := by
        intro m2
        induction m2 with
        | zero =>
          intro b hb μ' ha hc
          obtain ⟨f1, -⟩ := fr μ' ha
          refine k_X12_greatestPart_38 (e0 + 3) d _ r b μ' K ?_
          rw [z_i (c := 4) (m := 4 + r) (by omega) (by omega), Int.toNat_natCast, (f1.2.2.1 r (by omega)).1]
          refine ⟨⟨by omega, by omega⟩, fun _ => ?_, fun q => absurd q (by omega)⟩
          rw [z_fix (by omega) (by omega)]
          rw [show b = B r by omega, ← zpl_s] at hc ⊢
          exact ih (r + 1) (by omega) μ' ha hc
        | succ m2 ih2 =>
          intro b hb μ' ha hc
          obtain ⟨f1, f3, f4, f5, f6, f7⟩ := fr μ' ha
          have hrn : r < n := by omega
          have hbB : b < B r := by omega
          have hlb : (zpl G B r ++ zps G r b).length ≤ 72 := by
            rw [List.length_append]
            have h1 := zpl_len G B r (fun x hx => hB x (by omega))
            have h2 := zps_len G r b
            omega
          refine k_X12_greatestPart_38 (e0 + 3) d _ r b μ' K ?_
          rw [z_i (c := 4) (m := 4 + r) (by omega) (by omega), Int.toNat_natCast, (f1.2.2.1 r (by omega)).1]
          refine ⟨⟨by omega, by omega⟩, fun q => absurd q (by omega), fun _ => s_isSo e0 r b (by omega) μ' f1 hrn f3 hN f4 f5 _ ?_⟩
          rw [f6, z_fix (show (-2147483648 : Int) ≤ (b : Int) + 1 by omega) (by omega), (f1.2.2.1 r (by omega)).1]
          have E : zpl G B r ++ zps G r (b + 1) = (zpl G B r ++ zps G r b) ++ (if G r b = true then (100 * r + b) :: [] else []) := by rw [zps_s, List.append_assoc]
          by_cases q : G r b = true
          · rw [if_pos q] at E ⊢
            refine ⟨fun z => absurd z (by decide), fun _ => ⟨⟨by omega, by omega⟩, by omega, ?_⟩⟩
            have hx := zpl_at G B hrn hbB q
            have hv : zvlv (rM μ 0) B d (zpl G B n) (zpl G B r ++ zps G r b).length = rM μ 0 r ((b + d) % B r) := by
              unfold zvlv
              rw [hx]
              show rM μ 0 ((100 * r + b) / 100) (((100 * r + b) % 100 + d) % B ((100 * r + b) / 100)) = _
              rw [show (100 * r + b) / 100 = r by omega, show (100 * r + b) % 100 = b by omega]
            have hm := Nat.mod_lt (b + d) (show 0 < B r by omega)
            have hrg := rM_rg (i := 0) hH0 hrn hm
            rw [z_fix (show (-2147483648 : Int) ≤ (b : Int) + (d : Int) by omega) (by omega), show (b : Int) + (d : Int) = ((b + d : Nat) : Int) by omega, ← Int.ofNat_tmod]
            refine s_mreads (e0 + 1) r _ (by omega) (by omega) μ' f3 _ ?_
            rw [f7]
            obtain ⟨y, hy⟩ := Int.eq_ofNat_of_zero_le hrg.1
            rw [hy] at hv ⊢
            rw [Int.toNat_natCast, zset_self, hc y (by omega)]
            have g1 := zcnv_rg (zvlv (rM μ 0) B d (zpl G B n)) (y : Int) (zpl G B r ++ zps G r b).length
            rw [z_fix (show (-2147483648 : Int) ≤ zcnv (zvlv (rM μ 0) B d (zpl G B n)) (y : Int) (zpl G B r ++ zps G r b).length + 1 by omega) (by omega)]
            have e9 : zcnv (zvlv (rM μ 0) B d (zpl G B n)) (y : Int) (zpl G B r ++ zps G r b).length + 1 = zcnv (zvlv (rM μ 0) B d (zpl G B n)) (zvlv (rM μ 0) B d (zpl G B n) (zpl G B r ++ zps G r b).length) ((zpl G B r ++ zps G r b).length + 1) := by
              rw [hv, zcnv_s, if_pos hv]
            have E2 : (zpl G B r ++ zps G r (b + 1)).length = (zpl G B r ++ zps G r b).length + 1 := by rw [E, List.length_append]; rfl
            have nx := ih2 (b + 1) (by omega) (zset μ' 41 0 y (zcnv (zvlv (rM μ 0) B d (zpl G B n)) (y : Int) (zpl G B r ++ zps G r b).length + 1)) (zag_set ha _ _ _) (fun x hx => by
              rw [E2, zcnv_s]
              by_cases q : x = y
              · subst q
                rw [zset_self, if_pos hv]
              · rw [zo (by omega), hc x hx, if_neg (by rw [hv]; omega)]; omega)
            rw [E2, zmxv_s, ← e9] at nx
            refine ⟨⟨by omega, by omega⟩, ⟨by omega, by omega⟩, ⟨by omega, by omega⟩, fun q2 => ?_, fun q2 => ⟨⟨by omega, by omega⟩, ?_⟩⟩
            · rw [if_pos q2] at nx; exact nx
            · rw [if_neg q2] at nx; exact nx
          · rw [if_neg q] at E ⊢
            rw [List.append_nil] at E
            have nx := ih2 (b + 1) (by omega) μ' ha
            rw [E] at nx
            exact ⟨fun _ => nx hc, fun z => absurd rfl z⟩
      have h9 := L3 (B r) 0 (by omega) μ' ha
      rw [show zps G r 0 = [] from rfl, List.append_nil] at h9
      exact h9 hc
  have L1 : ∀ m i : Nat, i + m = 10 → ∀ μ', zag 41 μ μ' → (∀ x : Nat, x < i → μ' 41 0 x = 0) → zJ (e0 + 4) m_X12_greatestPart 2 [some (zR 9 0), some (zI (d : Int)), some (zI (i : Int)), none, none, none] μ' (zQ1 K) := by
    intro m
    induction m with
    | zero =>
      intro i hi μ' ha hc
      refine k_X12_greatestPart_2 (e0 + 3) d i μ' K ⟨fun _ => L2 n 0 (by omega) μ' ha (fun x hx => hc x (by omega)), fun q => absurd q (by omega)⟩
    | succ m ih =>
      intro i hi μ' ha hc
      refine k_X12_greatestPart_2 (e0 + 3) d i μ' K ⟨fun q => absurd q (by omega), fun _ => ⟨⟨by omega, by omega⟩, ?_⟩⟩
      rw [z_fix (by omega) (by omega), Int.toNat_natCast]
      refine ih (i + 1) (by omega) _ (zag_set ha _ _ _) (fun x hx => ?_)
      by_cases q : x = i
      · subst q; rw [zset_self]
      · rw [zo (by omega)]; exact hc x (by omega)
  exact L1 10 0 (by omega) μ (fun _ _ _ _ => rfl) (fun x hx => absurd hx (by omega))
theorem s_mlookAt (μ : zM) {n : Nat} {B : Nat → Nat} (hH : zHm μ n B) (hL : zLm μ 0) {N : Nat} (hN : N ≤ 6) (e : μ 9 0 13 = (N : Int)) (hD : ∀ k, k < N → 0 ≤ μ 39 0 (2 * k) ∧ μ 39 0 (2 * k) ≤ 11) (G : Nat → Nat → Bool) (hG : zfit (rM μ 0) B N (fun k => μ 39 0 (2 * k)) (fun k => μ 39 0 (2 * k + 1)) = G) (K : Int → zM → Prop) (h : ∀ μ', zag 41 μ μ' → K (zlkv (fun d => zmxv (zvlv (rM μ 0) B d (zpl G B n)) (zpl G B n).length) (((zpl G B n).length : Nat) : Int) 12).1 μ') : zC1 8 m_X12_lookAt [zR 9 0] μ K := by
  refine k_X12_lookAt 7 μ K (s_mplaces 3 0 (by omega) μ hH hL hN e hD G hG _ (fun _ => ?_) (fun q => absurd q (by decide)) (fun q => absurd q (by decide)))
  have L : ∀ m i : Nat, i + m = 12 → ∀ μ', zag 41 μ μ' → zJ 8 m_X12_lookAt 10 [some (zR 9 0), some (zI (zlkv (fun d => zmxv (zvlv (rM μ 0) B d (zpl G B n)) (zpl G B n).length) (((zpl G B n).length : Nat) : Int) i).2), some (zI (zlkv (fun d => zmxv (zvlv (rM μ 0) B d (zpl G B n)) (zpl G B n).length) (((zpl G B n).length : Nat) : Int) i).1), some (zI (i : Int)), none] μ' (zQ1 K) := by
    intro m
    induction m with
    | zero =>
      intro i hi μ' ha
      refine k_X12_lookAt_10 7 _ _ i μ' K ⟨fun _ => ?_, fun q => absurd q (by omega)⟩
      rw [show i = 12 by omega]
      exact h μ' ha
    | succ m ih =>
      intro i hi μ' ha
      have c39 : μ' 39 0 = μ 39 0 := by funext k; exact ha _ _ _ (by omega)
      have cr : rM μ' 0 = rM μ 0 := rM_cg (fun k => ha _ _ _ (by omega)) (fun k => ha _ _ _ (by omega))
      refine k_X12_lookAt_10 7 _ _ i μ' K ⟨fun q => absurd q (by omega), fun _ => s_mgreat 3 i (by omega) μ' (zHm_cg (fun k => ha _ _ _ (by omega)) hH) (zLm_cg (fun k => ha _ _ _ (by omega)) hL) hN (by rw [ha _ _ _ (by omega)]; exact e) (by rw [c39]; exact hD) G (by rw [cr, c39]; exact hG) _ (fun μ2 ha2 => ?_)⟩
      have ha3 : zag 41 μ μ2 := fun t i k q => (ha2 t i k q).trans (ha t i k q)
      have nx := ih (i + 1) (by omega) μ2 ha3
      rw [zlkv_s] at nx
      rw [cr, z_fix (by omega) (by omega)]
      refine ⟨fun q => s_lesser _ _ _ _ _ ?_, fun q => s_lesser _ _ _ _ _ ?_⟩
      · rw [if_pos q] at nx; rw [if_neg (by omega)]; exact nx
      · rw [if_neg q] at nx; rw [if_pos (by omega)]; exact nx
  exact L 12 0 (by omega) μ (fun _ _ _ _ => rfl)
theorem q_lookAt (μ : zM) (hR : zRel μ) : zAsk m_X11_lookAt m_X12_lookAt [] μ := by
  obtain ⟨n, B, nP, nW, hHs, hLR, hC, hM, hLc, hLm, he⟩ := zrd0 hR
  have hR0 := hR
  obtain ⟨-, -, -, -, -, -, -, -, -, -, ⟨N, s1, s2, s3, s4⟩, -⟩ := hR
  have hB : ∀ r, r < n → B r ≤ 12 := fun r hr => (hC.2.2.1 r hr).2.2
  have hn := hC.2.1
  refine k_X11_lookAt 7 μ _ (s_findPlaces 2 μ hC hLc s3 s1 (fun k hk => (s4 k hk).1.2) _ (fun μ' hg hf => ?_))
  have hlen := zpl_len (zfit (rC μ 0) B N (μ 24 0) (μ 25 0)) B n hB
  have hin := zpl_in (zfit (rC μ 0) B N (μ 24 0) (μ 25 0)) B n
  have cC : rC μ' 0 = rC μ 0 := rC_cg (fun k => hg _ _ _ (by omega)) (fun t k z => hg _ _ _ (by omega))
  refine s_bestLook μ' (zHc_cg (fun t k z => hg _ _ _ (by omega)) hC) (zLc_cg (fun k => hg _ _ _ (by omega)) hLc) hf (by omega) hin _ (fun μ2 ha => ?_)
  have k2 : ∀ t i k, ¬ (t = 29 ∨ (t = 7 ∧ k = 9) ∨ t = 30) → μ2 t i k = μ t i k := fun t i k q => (ha t i k (by omega)).trans (hg t i k (by omega))
  have cr : rM μ2 0 = rC μ 0 := by rw [← he]; exact rM_cg (fun k => k2 _ _ _ (by omega)) (fun k => k2 _ _ _ (by omega))
  have hG : zfit (rM μ2 0) B N (fun k => μ2 39 0 (2 * k)) (fun k => μ2 39 0 (2 * k + 1)) = zfit (rC μ 0) B N (μ 24 0) (μ 25 0) := by
    rw [cr]
    funext r b
    refine zal2_ext fun k hk => ?_
    show decide (rC μ 0 r ((b + (μ2 39 0 (2 * k)).toNat) % B r) = μ2 39 0 (2 * k + 1)) = decide (rC μ 0 r ((b + (μ 24 0 k).toNat) % B r) = μ 25 0 k)
    rw [k2 _ _ _ (by omega), k2 _ _ _ (by omega), (s4 k hk).1.1, (s4 k hk).2.1]
  refine s_mlookAt μ2 (zHm_cg (fun k => k2 _ _ _ (by omega)) hM) (zLm_cg (fun k => k2 _ _ _ (by omega)) hLm) s3 (by rw [k2 _ _ _ (by omega)]; exact s2) (fun k hk => ?_) _ hG _ (fun μ3 ha3 => ⟨?_, ?_⟩)
  · rw [k2 _ _ _ (by omega), (s4 k hk).1.1]
    exact (s4 k hk).1.2
  · rw [cr, cC]
  · refine zkp_rel (zkp_t (zgs_kp hg) (zkp_t (zkp_ag ha ?_) (zkp_ag ha3 ?_))) hR0
    · intro i k; unfold zsc; omega
    · intro i k; unfold zsc; omega
