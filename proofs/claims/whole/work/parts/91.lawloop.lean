/-! THE LAW: its loop, out of the calls -/
theorem zcase {f g : Nat} {as : List zV} {μ : zM} (h : zAsk f g as μ) {J : zM → Prop} {K : Int → zM → Prop} (hJ : ∀ μ2, zRel μ2 → J μ2) (C : Int → zM → Prop) (hC : ∀ x1 μ1, zC1 8 g (zR 9 0 :: as) μ1 (fun x2 μ2 => (x1 = x2 → J μ2) ∧ (¬ (x1 = x2) → ((0 : Int) = 0 ∨ (0 : Int) = 1) ∧ K 0 μ2)) → C x1 μ1) : zC1 8 f (zR 1 0 :: as) μ C :=
  zW_mo _ _ _ _ _ _ _ _ _ (zQ1_mono fun x1 μ1 q => hC x1 μ1 (zW_mo _ _ _ _ _ _ _ _ _ (zQ1_mono fun x2 μ2 r => ⟨fun _ => hJ μ2 r.2, fun z => absurd r.1 z⟩) q)) h
theorem z_lw {L i : Nat} (hL : L ≤ 2560) (hi : i + 5 ≤ L) (k : Int) (h0 : 0 ≤ k) (h4 : k ≤ 4) : 0 ≤ w32 ((i : Int) + k) ∧ w32 ((i : Int) + k) < (L : Int) := by
  rw [z_fix (by omega) (by omega)]
  omega
theorem z_law (L : Nat) (hL : L ≤ 2560) (xs : Nat → Int) (hxs : ∀ k, xs k < 2147483648) (K : Int → zM → Prop) (hK : ∀ μ, zRel μ → K 1 μ) : ∀ m i : Nat, L ≤ i + m → i ≤ 2600 → ∀ μ, zRel μ → zJL L xs 18 (i : Int) μ K := by
  intro m
  induction m with
  | zero =>
    intro i hm hi μ hR
    exact k_L_18 L xs i μ K ⟨fun _ => ⟨Or.inr rfl, hK μ hR⟩, fun q => absurd (by rw [z_fix (by omega) (by omega)]; omega) q⟩
  | succ m ih =>
    intro i hm hi μ hR
    refine k_L_18 L xs i μ K ⟨fun _ => ⟨Or.inr rfl, hK μ hR⟩, fun q => ?_⟩
    rw [z_fix (by omega) (by omega)] at q
    have h5 : i + 5 ≤ L := by omega
    have nx : ∀ μ2, zRel μ2 → zJL L xs 1247 (i : Int) μ2 K := fun μ2 hR2 => k_L_1247 L xs i μ2 K (by
      rw [z_fix (by omega) (by omega), show (i : Int) + 5 = ((i + 5 : Nat) : Int) by omega]
      exact ih (i + 5) (by omega) (by omega) μ2 hR2)
    have b := fun k h0 h4 => z_lw hL h5 k h0 h4
    have b1 := b 1 (by omega) (by omega)
    have b2 := b 2 (by omega) (by omega)
    have b3 := b 3 (by omega) (by omega)
    have b4 := b 4 (by omega) (by omega)
    refine ⟨⟨by omega, by omega⟩, fun _ => nx μ hR, fun _ => ?_, fun _ => ?_, fun _ => ?_, fun _ => ?_, fun _ => ?_, fun _ => ?_, fun _ => ?_, fun _ => ?_, fun _ => ?_, fun _ => ?_, fun _ => ?_, fun _ => ?_, fun _ => ?_, fun _ => ?_, fun _ => ?_, fun _ => ?_, fun _ => ?_, fun _ => ?_, fun _ => ?_, fun _ => ?_, fun _ => ?_, fun _ => ?_, fun _ => ?_, fun _ => ?_, fun _ => ?_, fun _ => ?_, fun _ => ?_, fun _ => ?_, fun _ => ?_, fun _ => ?_, fun _ => ?_, fun _ => ?_, fun _ => ?_, fun _ => ?_, fun _ => ?_, fun _ => ?_, fun _ => ?_, trivial⟩
    · exact k_L_196 L xs i μ K ⟨b1, zcase (q_feed μ hR _) nx _ (fun x1 μ1 q => ⟨b1, q⟩)⟩
    · exact k_L_219 L xs i μ K (zcase (q_house μ hR) nx _ (fun x1 μ1 q => q))
    · exact k_L_232 L xs i μ K (zcase (q_fault μ hR) nx _ (fun x1 μ1 q => q))
    · exact k_L_245 L xs i μ K ⟨b1, zcase (q_told μ hR _) nx _ (fun x1 μ1 q => ⟨b1, q⟩)⟩
    · exact k_L_268 L xs i μ K ⟨b1, b2, zcase (q_room μ hR _ _) nx _ (fun x1 μ1 q => ⟨b1, b2, q⟩)⟩
    · exact k_L_301 L xs i μ K ⟨b1, b2, b3, zcase (q_bar μ hR _ _ _) nx _ (fun x1 μ1 q => ⟨b1, b2, b3, q⟩)⟩
    · exact k_L_344 L xs i μ K ⟨b1, b2, zcase (q_person μ hR _ _) nx _ (fun x1 μ1 q => ⟨b1, b2, q⟩)⟩
    · exact k_L_377 L xs i μ K ⟨b1, b2, zcase (q_wall μ hR _ _) nx _ (fun x1 μ1 q => ⟨b1, b2, q⟩)⟩
    · exact k_L_410 L xs i μ K ⟨b1, b2, zcase (q_logged μ hR _ _) nx _ (fun x1 μ1 q => ⟨b1, b2, q⟩)⟩
    · exact k_L_443 L xs i μ K ⟨b1, zcase (q_hour μ hR _) nx _ (fun x1 μ1 q => ⟨b1, q⟩)⟩
    · exact k_L_466 L xs i μ K ⟨b1, b2, zcase (q_lift μ hR _ _) nx _ (fun x1 μ1 q => ⟨b1, b2, q⟩)⟩
    · exact k_L_499 L xs i μ K ⟨b1, b2, zcase (q_paste μ hR _ _) nx _ (fun x1 μ1 q => ⟨b1, b2, q⟩)⟩
    · exact k_L_532 L xs i μ K ⟨b1, b2, zcase (q_moveTo μ hR _ _) nx _ (fun x1 μ1 q => ⟨b1, b2, q⟩)⟩
    · exact k_L_565 L xs i μ K ⟨b1, b2, zcase (q_pace μ hR _ _) nx _ (fun x1 μ1 q => ⟨b1, b2, q⟩)⟩
    · exact k_L_598 L xs i μ K ⟨b1, zcase (q_drift μ hR _) nx _ (fun x1 μ1 q => ⟨b1, q⟩)⟩
    · exact k_L_621 L xs i μ K ⟨b1, zcase (q_undo μ hR _) nx _ (fun x1 μ1 q => ⟨b1, q⟩)⟩
    · exact k_L_644 L xs i μ K ⟨b1, b2, zcase (q_where μ hR _ _) nx _ (fun x1 μ1 q => ⟨b1, b2, q⟩)⟩
    · exact k_L_677 L xs i μ K ⟨b1, zcase (q_meets μ hR _) nx _ (fun x1 μ1 q => ⟨b1, q⟩)⟩
    · exact k_L_700 L xs i μ K ⟨b1, b2, zcase (q_together μ hR _ _) nx _ (fun x1 μ1 q => ⟨b1, b2, q⟩)⟩
    · exact k_L_733 L xs i μ K ⟨b1, b2, b3, zcase (q_canon μ hR _ _ _) nx _ (fun x1 μ1 q => ⟨b1, b2, b3, q⟩)⟩
    · exact k_L_776 L xs i μ K ⟨b1, b2, b3, zcase (q_bestCanon μ hR _ _ _) nx _ (fun x1 μ1 q => ⟨b1, b2, b3, q⟩)⟩
    · exact k_L_819 L xs i μ K ⟨b1, b2, b3, b4, zcase (q_match μ hR _ _ _ _) nx _ (fun x1 μ1 q => ⟨b1, b2, b3, b4, q⟩)⟩
    · exact k_L_872 L xs i μ K ⟨b1, b2, zcase (q_join μ hR _ _) nx _ (fun x1 μ1 q => ⟨b1, b2, q⟩)⟩
    · exact k_L_905 L xs i μ K ⟨b1, zcase (q_shortest μ hR _) nx _ (fun x1 μ1 q => ⟨b1, q⟩)⟩
    · exact k_L_928 L xs i μ K ⟨b1, zcase (q_nearest μ hR _) nx _ (fun x1 μ1 q => ⟨b1, q⟩)⟩
    · exact k_L_951 L xs i μ K ⟨b1, b2, zcase (q_modulation μ hR _ _) nx _ (fun x1 μ1 q => ⟨b1, b2, q⟩)⟩
    · exact k_L_984 L xs i μ K ⟨b1, zcase (q_sounds μ hR _) nx _ (fun x1 μ1 q => ⟨b1, q⟩)⟩
    · exact k_L_1007 L xs i μ K ⟨b1, b2, zcase (q_dry μ hR _ _) nx _ (fun x1 μ1 q => ⟨b1, b2, q⟩)⟩
    · exact k_L_1040 L xs i μ K ⟨b1, b2, zcase (q_see μ hR _ _) nx _ (fun x1 μ1 q => ⟨b1, b2, q⟩)⟩
    · exact k_L_1073 L xs i μ K ⟨b1, zcase (q_places μ hR _) nx _ (fun x1 μ1 q => ⟨b1, q⟩)⟩
    · exact k_L_1096 L xs i μ K (zcase (q_lookAt μ hR) nx _ (fun x1 μ1 q => q))
    · exact k_L_1109 L xs i μ K ⟨b1, b2, b3, zcase (q_write μ hR _ _ _) nx _ (fun x1 μ1 q => ⟨b1, b2, b3, q⟩)⟩
    · exact k_L_1152 L xs i μ K (zcase (q_judge μ hR) nx _ (fun x1 μ1 q => q))
    · exact k_L_1165 L xs i μ K (zcase (q_tear μ hR) nx _ (fun x1 μ1 q => q))
    · exact k_L_1178 L xs i μ K ⟨b1, zcase (q_seed μ hR _ (hxs _)) nx _ (fun x1 μ1 q => ⟨b1, q⟩)⟩
    · exact k_L_1201 L xs i μ K ⟨b1, zcase (q_keep μ hR _) nx _ (fun x1 μ1 q => ⟨b1, q⟩)⟩
    · exact k_L_1224 L xs i μ K ⟨b1, zcase (q_goBack μ hR _) nx _ (fun x1 μ1 q => ⟨b1, q⟩)⟩
