/-! AN HOUR: all who meet (model) -/
def zhqT (T : Nat → Nat → Nat → Bool) (w p : Nat) (h : Int) (x : Bool) : Nat → Bool
  | 0 => x
  | q + 1 => zhqT T w p h x q || (T w p q && (decide (((10 * p + q : Nat) : Int) = h) || decide (((10 * q + p : Nat) : Int) = h)))
def zhpT (T : Nat → Nat → Nat → Bool) (nP w : Nat) (h : Int) (x : Bool) : Nat → Bool
  | 0 => x
  | p + 1 => zhqT T w p h (zhpT T nP w h x p) nP
def zhwT (T : Nat → Nat → Nat → Bool) (nP : Nat) (h : Int) : Nat → Bool
  | 0 => false
  | w + 1 => zhpT T nP w h (zhwT T nP h w) nP
theorem zhqT_s (T : Nat → Nat → Nat → Bool) (w p : Nat) (h : Int) (x : Bool) (q : Nat) : zhqT T w p h x (q + 1) = (zhqT T w p h x q || (T w p q && (decide (((10 * p + q : Nat) : Int) = h) || decide (((10 * q + p : Nat) : Int) = h)))) := rfl
theorem zhpT_s (T : Nat → Nat → Nat → Bool) (nP w : Nat) (h : Int) (x : Bool) (p : Nat) : zhpT T nP w h x (p + 1) = zhqT T w p h (zhpT T nP w h x p) nP := rfl
theorem zhwT_s (T : Nat → Nat → Nat → Bool) (nP : Nat) (h : Int) (w : Nat) : zhwT T nP h (w + 1) = zhpT T nP w h (zhwT T nP h w) nP := rfl
theorem s_misAt (d i p : Nat) (hp : p < 5) (r b : Int) (μ : zM) (S : zST) (h1 : μ 34 i (0 + 6 + p) = S 4 p) (h2 : μ 34 i (0 + 11 + p) = S 5 p) (K : Int → zM → Prop) (h : K (if decide (S 4 p = r ∧ S 5 p = b) = true then 1 else 0) μ) : zC1 d m_X12_isAt [zR 9 0, zR 34 i, zI (p : Int), zI r, zI b] μ K := by
  rw [Nat.zero_add] at h1 h2
  refine k_X12_isAt_t34 d i p r b μ K ?_
  rw [z_i (c := 6) (m := 6 + p) (by omega) (by omega), z_i (c := 11) (m := 11 + p) (by omega) (by omega), Int.toNat_natCast, Int.toNat_natCast, h1, h2]
  refine ⟨⟨by omega, by omega⟩, fun q => ⟨Or.inl rfl, ?_⟩, fun q => ⟨⟨by omega, by omega⟩, fun q2 => ⟨Or.inl rfl, ?_⟩, fun q2 => ⟨Or.inr rfl, ?_⟩⟩⟩
  · rw [if_neg (fun z => q (of_decide_eq_true z).1)] at h; exact h
  · rw [if_neg (fun z => q2 (of_decide_eq_true z).2)] at h; exact h
  · rw [if_pos (decide_eq_true ⟨by omega, by omega⟩)] at h; exact h
theorem s_mmeet (d i nP nW : Nat) (hp5 : nP ≤ 5) (hw6 : nW ≤ 6) (hm1 : Int) (μ : zM) (e1 : μ 33 0 2 = (nP : Int)) (e2 : μ 33 0 3 = (nW : Int)) (W : Nat → Nat → Int) (hW : ∀ w c, w < nW → c < 4 → μ 33 0 (175 + 6 * c + w) = W w c) {S : zST} {M : Nat} (hM : M ≤ 19000000) (hs : zgdS S M (S, M) 0) (h : zLN μ nP 34 i 0 S M) (K : Int → zM → Prop) (hK : ∀ μ', zLN μ' nP 34 i 0 (zmew (zTT W S) nP (S, M) nW).1 (zmew (zTT W S) nP (S, M) nW).2 → μ' 9 0 24 = (if zhwT (zTT W S) nP hm1 nW = true then 1 else 0) → (∀ t i' k, ¬ (t = 34 ∧ i' = i) → ¬ (t = 9 ∧ k = 24) → μ' t i' k = μ t i' k) → K (((zmew (zTT W S) nP (S, M) nW).2 - M : Nat) : Int) μ') : zC1 (d + 2) m_X12_meetings [zR 9 0, zR 34 i, zI hm1] μ K := by
  refine k_X12_meetings_t34 (d + 1) i hm1 μ K ⟨Or.inl rfl, ?_⟩
  have L1 : ∀ m w : Nat, w + m = nW → ∀ μ', zLN μ' nP 34 i 0 (zmew (zTT W S) nP (S, M) w).1 (zmew (zTT W S) nP (S, M) w).2 → μ' 9 0 24 = (if zhwT (zTT W S) nP hm1 w = true then 1 else 0) → (∀ t i' k, ¬ (t = 34 ∧ i' = i) → ¬ (t = 9 ∧ k = 24) → μ' t i' k = μ t i' k) → zJ (d + 2) m_X12_meetings 10 [some (zR 9 0), some (zR 34 i), some (zI hm1), some (zI (((zmew (zTT W S) nP (S, M) w).2 - M : Nat) : Int)), some (zI (w : Int)), none, none] μ' (zQ1 K) := by
    intro m
    induction m with
    | zero =>
      intro w hw μ' hl hb hf
      have f2 : μ' 33 0 3 = (nW : Int) := by rw [hf _ _ _ (by omega) (by omega)]; exact e2
      refine k_X12_meetings_t34_10 (d + 1) i hm1 _ w μ' K ⟨by omega, fun _ => ?_, fun q => absurd q (by omega)⟩
      rw [show w = nW by omega] at hl hb ⊢
      exact hK μ' hl hb hf
    | succ m ih =>
      intro w hw μ' hl hb hf
      have f2 : μ' 33 0 3 = (nW : Int) := by rw [hf _ _ _ (by omega) (by omega)]; exact e2
      have hg := zmew_g (T := zTT W S) hp5 hs w (by omega)
      refine k_X12_meetings_t34_10 (d + 1) i hm1 _ w μ' K ⟨by omega, fun q => absurd q (by omega), fun _ => ?_⟩
      have L2 : ∀ m p : Nat, p + m = nP → ∀ μ', zLN μ' nP 34 i 0 (zmep (zTT W S) nP w (zmew (zTT W S) nP (S, M) w) p).1 (zmep (zTT W S) nP w (zmew (zTT W S) nP (S, M) w) p).2 → μ' 9 0 24 = (if zhpT (zTT W S) nP w hm1 (zhwT (zTT W S) nP hm1 w) p = true then 1 else 0) → (∀ t i' k, ¬ (t = 34 ∧ i' = i) → ¬ (t = 9 ∧ k = 24) → μ' t i' k = μ t i' k) → zJ (d + 2) m_X12_meetings 24 [some (zR 9 0), some (zR 34 i), some (zI hm1), some (zI (((zmep (zTT W S) nP w (zmew (zTT W S) nP (S, M) w) p).2 - M : Nat) : Int)), some (zI (w : Int)), some (zI (p : Int)), none] μ' (zQ1 K) := by
        intro m
        induction m with
        | zero =>
          intro p hp μ' hl hb hf
          have f1 : μ' 33 0 2 = (nP : Int) := by rw [hf _ _ _ (by omega) (by omega)]; exact e1
          refine k_X12_meetings_t34_24 (d + 1) i hm1 _ w p μ' K ⟨by omega, fun _ => ?_, fun q => absurd q (by omega)⟩
          rw [z_fix (by omega) (by omega)]
          rw [show p = nP by omega] at hl hb ⊢
          exact ih (w + 1) (by omega) μ' hl hb hf
        | succ m ih2 =>
          intro p hp μ' hl hb hf
          have f1 : μ' 33 0 2 = (nP : Int) := by rw [hf _ _ _ (by omega) (by omega)]; exact e1
          have hg2 := zmep_g (T := zTT W S) hp5 (show w < 6 by omega) hg p (by omega)
          refine k_X12_meetings_t34_24 (d + 1) i hm1 _ w p μ' K ⟨by omega, fun q => absurd q (by omega), fun _ => ?_⟩
          have L3 : ∀ m q : Nat, q + m = nP → ∀ μ', zLN μ' nP 34 i 0 (zmeq (zTT W S) w p (zmep (zTT W S) nP w (zmew (zTT W S) nP (S, M) w) p) q).1 (zmeq (zTT W S) w p (zmep (zTT W S) nP w (zmew (zTT W S) nP (S, M) w) p) q).2 → μ' 9 0 24 = (if zhqT (zTT W S) w p hm1 (zhpT (zTT W S) nP w hm1 (zhwT (zTT W S) nP hm1 w) p) q = true then 1 else 0) → (∀ t i' k, ¬ (t = 34 ∧ i' = i) → ¬ (t = 9 ∧ k = 24) → μ' t i' k = μ t i' k) → zJ (d + 2) m_X12_meetings 38 [some (zR 9 0), some (zR 34 i), some (zI hm1), some (zI (((zmeq (zTT W S) w p (zmep (zTT W S) nP w (zmew (zTT W S) nP (S, M) w) p) q).2 - M : Nat) : Int)), some (zI (w : Int)), some (zI (p : Int)), some (zI (q : Int))] μ' (zQ1 K) := by
            intro m
            induction m with
            | zero =>
              intro q hq μ' hl hb hf
              have f1 : μ' 33 0 2 = (nP : Int) := by rw [hf _ _ _ (by omega) (by omega)]; exact e1
              refine k_X12_meetings_t34_38 (d + 1) i hm1 _ w p q μ' K ⟨by omega, fun _ => ?_, fun z => absurd z (by omega)⟩
              rw [z_fix (by omega) (by omega)]
              rw [show q = nP by omega] at hl hb ⊢
              exact ih2 (p + 1) (by omega) μ' hl hb hf
            | succ m ih3 =>
              intro q hq μ' hl hb hf
              have f1 : μ' 33 0 2 = (nP : Int) := by rw [hf _ _ _ (by omega) (by omega)]; exact e1
              have hg3 := zmeq_g (T := zTT W S) (show w < 6 by omega) (show p < 5 by omega) hg2 q (by omega)
              have fw : ∀ c, c < 4 → μ' 33 0 (175 + 6 * c + w) = W w c := fun c hc => by rw [hf _ _ _ (by omega) (by omega)]; exact hW w c (by omega) hc
              have w0 := fw 0 (by omega)
              have w1 := fw 1 (by omega)
              have w2 := fw 2 (by omega)
              have w3 := fw 3 (by omega)
              rw [show 175 + 6 * 0 + w = 175 + w by omega] at w0
              rw [show 175 + 6 * 1 + w = 181 + w by omega] at w1
              rw [show 175 + 6 * 2 + w = 187 + w by omega] at w2
              rw [show 175 + 6 * 3 + w = 193 + w by omega] at w3
              refine k_X12_meetings_t34_38 (d + 1) i hm1 _ w p q μ' K ⟨by omega, fun z => absurd z (by omega), fun _ => ?_⟩
              rw [z_i (c := 175) (m := 175 + w) (by omega) (by omega), z_i (c := 181) (m := 181 + w) (by omega) (by omega), z_i (c := 187) (m := 187 + w) (by omega) (by omega), z_i (c := 193) (m := 193 + w) (by omega) (by omega), Int.toNat_natCast, Int.toNat_natCast, Int.toNat_natCast, Int.toNat_natCast, w0, w1, z_fix (show (-2147483648 : Int) ≤ (q : Int) + 1 by omega) (by omega)]
              refine ⟨⟨by omega, by omega⟩, ⟨by omega, by omega⟩, s_misAt _ i p (by omega) _ _ μ' S (by rw [(hl.2.2.2.2.1 p (by omega)).1]; exact hg3.1 4 p (by omega) (by omega)) (by rw [(hl.2.2.2.2.1 p (by omega)).2.1]; exact hg3.1 5 p (by omega) (by omega)) _ ?_⟩
              have nx := ih3 (q + 1) (by omega)
              rw [zmeq_s, zhqT_s] at nx
              by_cases qa : zTA W S w p = true
              · have qa' : decide (S 4 p = W w 0 ∧ S 5 p = W w 1) = true := qa
                rw [if_pos qa', w2, w3]
                refine ⟨fun z => absurd z (by decide), fun _ => ⟨⟨by omega, by omega⟩, ⟨by omega, by omega⟩, s_misAt _ i q (by omega) _ _ μ' S (by rw [(hl.2.2.2.2.1 q (by omega)).1]; exact hg3.1 4 q (by omega) (by omega)) (by rw [(hl.2.2.2.2.1 q (by omega)).2.1]; exact hg3.1 5 q (by omega) (by omega)) _ ?_⟩⟩
                by_cases qb : zTB W S w q = true
                · have qb' : decide (S 4 q = W w 2 ∧ S 5 q = W w 3) = true := qb
                  have hT : zTT W S w p q = true := by unfold zTT; rw [qa, qb]; rfl
                  rw [if_pos hT, hT, Bool.true_and] at nx
                  rw [if_pos qb', show w32 (w32 (w32 (100 * (w : Int)) + w32 (10 * (p : Int))) + (q : Int)) = ((100 * w + 10 * p + q : Nat) : Int) by
                    rw [z_fix (show (-2147483648 : Int) ≤ 100 * (w : Int) by omega) (by omega), z_fix (show (-2147483648 : Int) ≤ 10 * (p : Int) by omega) (by omega), z_fix (show (-2147483648 : Int) ≤ 100 * (w : Int) + 10 * (p : Int) by omega) (by omega), z_fix (by omega) (by omega)]
                    omega]
                  refine ⟨fun z => absurd z (by decide), fun _ => s_logs d i _ μ' hp5 hl hg3.2.1 _ (fun μ3 hl3 hf3 => ?_)⟩
                  have b3 : μ3 9 0 24 = (if zhqT (zTT W S) w p hm1 (zhpT (zTT W S) nP w hm1 (zhwT (zTT W S) nP hm1 w) p) q = true then 1 else 0) := by rw [hf3 _ _ _ (by omega)]; exact hb
                  have hge := hg3.2.2.1
                  have hle := hg3.2.2.2.1
                  have go : ∀ v : Int, v = (if (zhqT (zTT W S) w p hm1 (zhpT (zTT W S) nP w hm1 (zhwT (zTT W S) nP hm1 w) p) q || (decide (((10 * p + q : Nat) : Int) = hm1) || decide (((10 * q + p : Nat) : Int) = hm1))) = true then 1 else 0) → zJ (d + 2) m_X12_meetings 38 [some (zR 9 0), some (zR 34 i), some (zI hm1), some (zI (w32 ((((zmeq (zTT W S) w p (zmep (zTT W S) nP w (zmew (zTT W S) nP (S, M) w) p) q).2 - M : Nat) : Int) + 1))), some (zI (w : Int)), some (zI (p : Int)), some (zI ((q : Int) + 1))] (zset μ3 9 0 24 v) (zQ1 K) := by
                    intro v hv
                    have nx2 := nx (zset μ3 9 0 24 v) (zLN_cg hp5 (fun k _ => zo (by omega)) hl3) (by rw [zset_self]; exact hv) (fun t i' k z1 z2 => by rw [zo (by omega), hf3 _ _ _ z1]; exact hf _ _ _ z1 z2)
                    rw [z_fix (by omega) (by omega)]
                    have ec : ((((zmeq (zTT W S) w p (zmep (zTT W S) nP w (zmew (zTT W S) nP (S, M) w) p) q).2 + 1 - M : Nat) : Int)) = (((zmeq (zTT W S) w p (zmep (zTT W S) nP w (zmew (zTT W S) nP (S, M) w) p) q).2 - M : Nat) : Int) + 1 := by omega
                    rw [ec] at nx2
                    exact nx2
                  rw [b3, show w32 (w32 (10 * (p : Int)) + (q : Int)) = ((10 * p + q : Nat) : Int) by rw [z_fix (show (-2147483648 : Int) ≤ 10 * (p : Int) by omega) (by omega), z_fix (by omega) (by omega)]; omega, show w32 (w32 (10 * (q : Int)) + (p : Int)) = ((10 * q + p : Nat) : Int) by rw [z_fix (show (-2147483648 : Int) ≤ 10 * (q : Int) by omega) (by omega), z_fix (by omega) (by omega)]; omega]
                  by_cases qx : zhqT (zTT W S) w p hm1 (zhpT (zTT W S) nP w hm1 (zhwT (zTT W S) nP hm1 w) p) q = true
                  · rw [if_pos qx]
                    exact ⟨fun _ => ⟨Or.inr rfl, go 1 (by rw [qx, Bool.true_or, if_pos rfl])⟩, fun z => absurd (show (1 : Int) ≠ 0 by decide) z⟩
                  · rw [if_neg qx]
                    have qx' : zhqT (zTT W S) w p hm1 (zhpT (zTT W S) nP w hm1 (zhwT (zTT W S) nP hm1 w) p) q = false := by simpa using qx
                    refine ⟨fun z => absurd rfl z, fun _ => ⟨fun y => ⟨Or.inr rfl, go 1 ?_⟩, fun y => ⟨fun y2 => ⟨Or.inl rfl, go 0 ?_⟩, fun y2 => ⟨Or.inr rfl, go 1 ?_⟩⟩⟩⟩
                    · rw [qx', decide_eq_true y]; rfl
                    · rw [qx', decide_eq_false y, decide_eq_false y2]; rfl
                    · rw [qx', decide_eq_true (show ((10 * q + p : Nat) : Int) = hm1 from Classical.byContradiction fun z => y2 z), Bool.or_true]; rfl
                · have qb' : ¬ decide (S 4 q = W w 2 ∧ S 5 q = W w 3) = true := qb
                  have hT : zTT W S w p q = false := by unfold zTT; rw [qa]; simpa using qb
                  rw [if_neg (by rw [hT]; decide), hT, Bool.false_and, Bool.or_false] at nx
                  rw [if_neg qb']
                  exact ⟨fun _ => nx μ' hl hb hf, fun z => absurd rfl z⟩
              · have qa' : ¬ decide (S 4 p = W w 0 ∧ S 5 p = W w 1) = true := qa
                have hT : zTT W S w p q = false := by unfold zTT; rw [show zTA W S w p = false by simpa using qa]; rfl
                rw [if_neg (by rw [hT]; decide), hT, Bool.false_and, Bool.or_false] at nx
                rw [if_neg qa']
                exact ⟨fun _ => nx μ' hl hb hf, fun z => absurd rfl z⟩
          exact L3 nP 0 (by omega) μ' hl hb hf
      exact L2 nP 0 (by omega) μ' hl hb hf
  have h0 := L1 nW 0 (by omega) (zset μ 9 0 24 0) (zLN_cg hp5 (fun k _ => zo (by omega)) h) (by rw [zset_self]; rfl) (fun t i' k z1 z2 => zo (by omega))
  rw [show (((zmew (zTT W S) nP (S, M) 0).2 - M : Nat) : Int) = 0 by show ((M - M : Nat) : Int) = 0; omega] at h0
  exact h0
