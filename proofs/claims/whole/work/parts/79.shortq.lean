/-! SHORTEST: the call -/
abbrev zJM (μ : zM) (B : Nat → Nat) (x t : Nat) : Int := if x = t then 0 else ((zjoin (rM μ 0 x) (rM μ 0 t) (B x) (B t) : Nat) : Int)
theorem s_mset (n : Nat) (a1 : Int) (μ : zM) {B : Nat → Nat} (hH : zHm μ n B) (hL : zLm μ 0) (K : Int → zM → Prop) (hK : ∀ μ', (∀ t i k, t ≠ 42 → t ≠ 43 → μ' t i k = μ t i k) → (∀ k, k < n → μ' 42 0 k = (k : Int)) → (∀ x t, x < n → t < n → μ' 43 0 (6 * x + t) = zJM μ B x t) → zJ 8 m_X12_shortest 122 [some (zR 9 0), some (zI a1), some (zI (n : Int)), some (zI (zSm (fun k => (B k : Int)) n)), some (zI 100000000), some (zI 0), some (zI 1), none, none, none] μ' (zQ1 K)) : zJ 8 m_X12_shortest 31 [some (zR 9 0), some (zI a1), some (zI (n : Int)), some (zI 0), some (zI 0), none, none, none, none, none] μ (zQ1 K) := by
  have hn := hH.2.1
  have hB : ∀ r, r < n → 1 ≤ B r ∧ B r ≤ 12 := fun r hr => ⟨(hH.2.2.1 r hr).2.1, (hH.2.2.1 r hr).2.2⟩
  have L : ∀ m r : Nat, r + m = n → ∀ μ', (∀ t i k, t ≠ 42 → t ≠ 43 → μ' t i k = μ t i k) → (∀ k, k < r → μ' 42 0 k = (k : Int)) → (∀ x t, x < r → t < n → μ' 43 0 (6 * x + t) = zJM μ B x t) → zJ 8 m_X12_shortest 31 [some (zR 9 0), some (zI a1), some (zI (n : Int)), some (zI (zSm (fun k => (B k : Int)) r)), some (zI (r : Int)), none, none, none, none, none] μ' (zQ1 K) := by
    intro m
    induction m with
    | zero =>
      intro r hr μ' hf h42 h43
      rw [show r = n by omega] at h42 h43 ⊢
      exact k_X12_shortest_31 7 a1 n _ n μ' K ⟨fun _ => hK μ' hf h42 h43, fun q => absurd q (by omega)⟩
    | succ m ih =>
      intro r hr μ' hf h42 h43
      have hbr := hB r (by omega)
      have hsum : 0 ≤ zSm (fun k => (B k : Int)) r ∧ zSm (fun k => (B k : Int)) r ≤ 12 * (r : Int) := zSm_rg (fun b hb => by have := hB b (by omega); omega)
      have e4 : (zset μ' 42 0 r (r : Int)) 33 0 (4 + r) = (B r : Int) := by rw [zo (by omega), hf _ _ _ (by omega) (by omega)]; exact (hH.2.2.1 r (by omega)).1
      refine k_X12_shortest_31 7 a1 n _ r μ' K ⟨fun q => absurd q (by omega), fun _ => ⟨by omega, ?_⟩⟩
      rw [z_i (c := 4) (m := 4 + r) (by omega) (by omega), Int.toNat_natCast, Int.toNat_natCast, e4, z_fix (by omega) (by omega)]
      refine ⟨⟨by omega, by omega⟩, ?_⟩
      have L2 : ∀ m2 s : Nat, s + m2 = n → ∀ μ2, (∀ t i k, t ≠ 42 → t ≠ 43 → μ2 t i k = μ t i k) → (∀ k, k < r + 1 → μ2 42 0 k = (k : Int)) → (∀ x t, x < n → t < n → (x < r ∨ (x = r ∧ t < s)) → μ2 43 0 (6 * x + t) = zJM μ B x t) → zJ 8 m_X12_shortest 61 [some (zR 9 0), some (zI a1), some (zI (n : Int)), some (zI (zSm (fun k => (B k : Int)) r + (B r : Int))), some (zI (r : Int)), some (zI (s : Int)), none, none, none, none] μ2 (zQ1 K) := by
        intro m2
        induction m2 with
        | zero =>
          intro s hs μ2 hf2 g42 g43
          refine k_X12_shortest_61 7 a1 n _ r s μ2 K ⟨fun _ => ?_, fun q => absurd q (by omega)⟩
          rw [z_fix (by omega) (by omega)]
          exact ih (r + 1) (by omega) μ2 hf2 g42 (fun x t q1 q2 => g43 x t (by omega) q2 (by omega))
        | succ m2 ih2 =>
          intro s hs μ2 hf2 g42 g43
          have nx : ∀ v : Int, v = zJM μ B r s → zJ 8 m_X12_shortest 61 [some (zR 9 0), some (zI a1), some (zI (n : Int)), some (zI (zSm (fun k => (B k : Int)) r + (B r : Int))), some (zI (r : Int)), some (zI (w32 ((s : Int) + 1))), none, none, none, none] (zset μ2 43 0 (6 * r + s) v) (zQ1 K) := by
            intro v hv
            rw [z_fix (by omega) (by omega)]
            refine ih2 (s + 1) (by omega) _ (fun t i k q1 q2 => by rw [zo (by omega)]; exact hf2 t i k q1 q2) (fun k q => by rw [zo (by omega)]; exact g42 k q) (fun x t q1 q2 q3 => ?_)
            by_cases q : x = r ∧ t = s
            · obtain ⟨rfl, rfl⟩ := q
              rw [zset_self]; exact hv
            · rw [zo (by omega)]; exact g43 x t q1 q2 (by omega)
          refine k_X12_shortest_61 7 a1 n _ r s μ2 K ⟨fun q => absurd q (by omega), fun _ => ?_⟩
          rw [z_fix (show (-2147483648 : Int) ≤ 6 * (r : Int) by omega) (by omega), z_fix (show (-2147483648 : Int) ≤ 6 * (r : Int) + (s : Int) by omega) (by omega), show 6 * (r : Int) + (s : Int) = ((6 * r + s : Nat) : Int) by omega, Int.toNat_natCast]
          refine ⟨fun q => s_joinOf 4 r s μ2 (zHm_cg (fun k => hf2 _ _ _ (by omega) (by omega)) hH) (by omega) (by omega) (fun x hx => by rw [hf2 _ _ _ (by omega) (by omega)]; exact hL x hx) _ ⟨⟨by omega, by omega⟩, nx _ ?_⟩, fun q => ⟨⟨by omega, by omega⟩, nx 0 ?_⟩⟩
          · have er : rM μ2 0 = rM μ 0 := by
              funext x y
              unfold rM
              rw [hf2 _ _ _ (by omega) (by omega), hf2 _ _ _ (by omega) (by omega), hf2 _ _ _ (by omega) (by omega)]
            unfold zJM
            rw [er, if_neg (by omega)]
          · unfold zJM
            rw [if_pos (by omega)]
      exact L2 n 0 (by omega) _ (fun t i k q1 q2 => by rw [zo (by omega)]; exact hf t i k q1 q2) (fun k q => by
        by_cases e : k = r
        · subst e; rw [zset_self]
        · rw [zo (by omega)]; exact h42 k (by omega)) (fun x t q1 q2 q3 => by rw [zo (by omega)]; exact h43 x t (by omega) q2)
  exact L n 0 (by omega) μ (fun _ _ _ _ _ => rfl) (fun k q => absurd q (by omega)) (fun x t q => absurd q (by omega))
theorem q_shortest (μ : zM) (hR : zRel μ) (a : Int) : zAsk m_X11_shortest m_X12_shortest [zI a] μ := by
  obtain ⟨n, B, nP, nW, hHs, hLR, hC, hM, hLc, hLm, he⟩ := zrd0 hR
  have hn := hC.2.1
  have h64 := z_p6 hn
  have hB : ∀ r, r < n → 1 ≤ B r ∧ B r ≤ 12 := fun r hr => ⟨(hC.2.2.1 r hr).2.1, (hC.2.2.1 r hr).2.2⟩
  refine k_X11_shortest 7 a μ _ (s_beyond _ a 1 μ _ (fun q1 q2 => ⟨fun _ => ⟨fun q3 => ?_, fun q3 => ?_⟩, fun z => absurd rfl z⟩) (fun q => ⟨fun z => absurd z (by decide), fun _ => ?_⟩))
  · rw [hC.1] at q3
    have hn1 : 1 ≤ n := by omega
    have h1 : 1 ≤ 2 ^ n := Nat.pos_of_ne_zero (by
      intro z
      have := Nat.pow_eq_zero.mp z
      omega)
    refine s_reckon 0 n μ hC hLc _ (fun μ1 hf1 e1 ha hT => ?_)
    have hA := zAd_12 hB (fun x t => (zjoin_le _ _ _ _).2) ha
    have kp : zkp μ μ1 := fun t i k q => hf1 t i k (fun z => q (by unfold zsc; omega)) (fun z => q (by unfold zsc; omega)) (fun z => q (by unfold zsc; omega))
    have hHs1 := zkp_hs kp hHs
    have hLm1 : zLm μ1 0 := fun r hr => by rw [kp _ _ _ (by unfold zsc; omega)]; exact hLm r hr
    have er : rM μ1 0 = rC μ 0 := by
      rw [← he]
      funext x y
      unfold rM
      rw [kp _ _ _ (by unfold zsc; omega), kp _ _ _ (by unfold zsc; omega), kp _ _ _ (by unfold zsc; omega)]
    have hg := zG_rg hn hA n (2 ^ n - 1) 6 (Or.inl rfl) (by omega) (zpp_n n (by omega))
    have mod : ∀ X : Int, X = (if a ≠ 0 then zfgr 0 (zgr n (μ1 31 0) n (2 ^ n - 1) 6) else zGv n (μ1 31 0) n (2 ^ n - 1) 6) → zC1 8 m_X12_shortest [zR 9 0, zI a] μ1 (fun y μ2 => X = y ∧ zRel μ2) := by
      intro X hX
      refine k_X12_shortest 7 a μ1 _ (s_in _ _ _ _ _ _ (fun _ _ => ⟨fun _ => ⟨by omega, ?_, ?_⟩, fun z => absurd (show (1 : Int) ≠ 0 by decide) z⟩) (fun q => absurd q (by omega)))
      · rw [hHs1.2.1.1]
        intro _
        refine s_mset n a μ1 hHs1.2.1 hLm1 _ (fun μ2 hf2 h42 h43 => ?_)
        have hs := zSm_rg (f := fun k => (B k : Int)) (m := 12) (n := n) (fun b hb => by have := hB b hb; omega)
        have hfct := zmf_ct (A := μ1 31 0) (J := μ2 43 0) (B := B) hn1 hn (fun t ht => ha.1 t ht) (fun x t hx ht => by
          rw [ha.2 x t hx (Or.inl ht), h43 x t hx ht]
          unfold zJM zJC
          rw [er])
        generalize zSm (fun k => (B k : Int)) n = all0 at hs hfct ⊢
        obtain ⟨all, rfl⟩ := Int.eq_ofNat_of_zero_le hs.1
        have hzit := zit_n hn1 hn
        have hlx := zfd_lx hn hA n (2 ^ n - 1) 6 (Or.inl rfl) (by omega) (zpp_n n (by omega)) 0 (zmf (all : Int) (μ2 43 0)) (zfgr 0) (0, 100000000) hfct
        rw [if_pos (show 0 + zGv n (μ1 31 0) n (2 ^ n - 1) 6 < (((0, 100000000) : Int × Int)).2 by show _ < (100000000 : Int); omega)] at hlx
        refine s_orders n all hn1 hn (by omega) a μ2 (μ2 43 0) (fun _ _ => rfl) (fun r s hr hs2 => ?_) (zfgr 0 (zgr n (μ1 31 0) n (2 ^ n - 1) 6), 0 + zGv n (μ1 31 0) n (2 ^ n - 1) 6) _ (fun μ3 hf3 => ⟨?_, ?_⟩) 720 (List.range n) (0, 100000000) μ2 ⟨List.length_range, fun k hk => ?_⟩ (fun _ _ _ _ => rfl) hzit.2 (by rw [hzit.1]; exact hlx)
        · rw [h43 r s hr hs2]
          unfold zJM
          have h5 := (zjoin_le (rM μ1 0 r) (rM μ1 0 s) (B r) (B s)).2
          have h6 := hB s hs2
          split <;> omega
        · rw [h42 k hk, List.getD_eq_getElem?_getD, List.getElem?_range hk]
          rfl
        · rw [hX]
          by_cases q : a ≠ 0
          · rw [if_pos q, if_pos q]
          · rw [if_neg q, if_neg q]
            omega
        · exact zkp_rel (zkp_t kp (fun t i k q => by rw [hf3 t i k (fun z => q (by unfold zsc; omega)), hf2 t i k (fun z => q (by unfold zsc; omega)) (fun z => q (by unfold zsc; omega))])) hR
      · rw [hHs1.2.1.1]
        intro z
        exact absurd z (by omega)
    refine ⟨fun q => s_leastNumber 4 n hn μ1 e1 hA hT _ (mod _ ?_), fun q => s_fewestBars 6 n hn μ1 e1 hT _ (mod _ ?_)⟩
    · rw [if_pos q]
    · rw [if_neg q]
  · rw [hC.1] at q3
    refine k_X12_shortest 7 a μ _ (s_in _ _ _ _ _ _ (fun _ _ => ⟨fun _ => ⟨by omega, fun z => absurd z (by rw [hM.1]; omega), fun _ => ⟨rfl, hR⟩⟩, fun z => absurd (show (1 : Int) ≠ 0 by decide) z⟩) (fun q => absurd q (by omega)))
  · exact k_X12_shortest 7 a μ _ (s_in _ _ _ _ _ _ (fun _ _ => absurd q (by omega)) (fun _ => ⟨fun z => absurd rfl z, fun _ => ⟨rfl, hR⟩⟩))
