/-! WHAT WAS SEEN: where it fits, both sides -/
def zfg (f : Nat → Nat → Int) (B : Nat → Nat) (D S : Nat → Int) (r b k : Nat) : Bool := decide (f r ((b + (D k).toNat) % B r) = S k)
def zfit (f : Nat → Nat → Int) (B : Nat → Nat) (N : Nat) (D S : Nat → Int) (r b : Nat) : Bool := zal2 (zfg f B D S r b) N
theorem s_fits (d r b : Nat) (hb : b < 100) (μ : zM) {n : Nat} {B : Nat → Nat} (hH : zHc μ n B) (hr : r < n) (hL : zLc μ 0) {N : Nat} (hN : N ≤ 6) (e : μ 7 0 7 = (N : Int)) (hD : ∀ k, k < N → 0 ≤ μ 24 0 k ∧ μ 24 0 k ≤ 11) (K : Int → zM → Prop) (h : K (if zfit (rC μ 0) B N (μ 24 0) (μ 25 0) r b = true then 1 else 0) μ) : zC1 (d + 4) m_X10_fits [zR 7 0, zR 4 0, zI (r : Int), zI (b : Int)] μ K := by
  refine k_X10_fits (d + 3) 0 r b μ K ?_
  unfold zfit at h
  have L : ∀ m i : Nat, i + m = N → zal2 (zfg (rC μ 0) B (μ 24 0) (μ 25 0) r b) i = true → zJ (d + 4) m_X10_fits 3 [some (zR 7 0), some (zR 4 0), some (zI (r : Int)), some (zI (b : Int)), some (zI (i : Int))] μ (zQ1 K) := by
    intro m
    induction m with
    | zero =>
      intro i hi ha
      refine k_X10_fits_3 (d + 3) 0 r b i μ K ⟨fun _ => ⟨Or.inr rfl, ?_⟩, fun q => absurd q (by omega)⟩
      rw [show i = N by omega] at ha
      rw [if_pos ha] at h
      exact h
    | succ m ih =>
      intro i hi ha
      obtain ⟨D, hD1⟩ := Int.eq_ofNat_of_zero_le (hD i (by omega)).1
      have hD2 := (hD i (by omega)).2
      refine k_X10_fits_3 (d + 3) 0 r b i μ K ⟨fun q => absurd q (by omega), fun _ => s_at_24 _ i (by omega) μ _ ?_⟩
      rw [hD1, z_fix (show (-2147483648 : Int) ≤ (b : Int) + (D : Int) by omega) (by omega), show (b : Int) + (D : Int) = ((b + D : Nat) : Int) by omega]
      refine s_readsRound d 0 r (b + D) μ hH hr hL _ (s_at_25 _ i (by omega) μ _ ⟨fun q => ?_, fun q => ⟨Or.inl rfl, ?_⟩⟩)
      · rw [z_fix (by omega) (by omega)]
        refine ih (i + 1) (by omega) ?_
        rw [zal2_s, ha, Bool.true_and]
        unfold zfg
        rw [hD1, Int.toNat_natCast]
        exact decide_eq_true q
      · have g : zfg (rC μ 0) B (μ 24 0) (μ 25 0) r b i = false := by
          unfold zfg
          rw [hD1, Int.toNat_natCast]
          exact decide_eq_false q
        rw [zal2_no g (n := N) (by omega)] at h
        exact h
  exact L N 0 (by omega) rfl
theorem s_isSo (d r b : Nat) (hb : b < 100) (μ : zM) {n : Nat} {B : Nat → Nat} (hH : zHm μ n B) (hr : r < n) (hL : zLm μ 0) {N : Nat} (hN : N ≤ 6) (e : μ 9 0 13 = (N : Int)) (hD : ∀ k, k < N → 0 ≤ μ 39 0 (2 * k) ∧ μ 39 0 (2 * k) ≤ 11) (K : Int → zM → Prop) (h : K (if zfit (rM μ 0) B N (fun k => μ 39 0 (2 * k)) (fun k => μ 39 0 (2 * k + 1)) r b = true then 1 else 0) μ) : zC1 (d + 3) m_X12_isSo [zR 9 0, zI (r : Int), zI (b : Int)] μ K := by
  obtain ⟨e1, e2, e3, -⟩ := hH
  obtain ⟨g1, g2, g3⟩ := e3 r hr
  refine k_X12_isSo (d + 2) r b μ K ?_
  unfold zfit at h
  have L : ∀ m i : Nat, i + m = N → zJ (d + 3) m_X12_isSo 5 [some (zR 9 0), some (zI (r : Int)), some (zI (b : Int)), some (zI (if zal2 (zfg (rM μ 0) B (fun k => μ 39 0 (2 * k)) (fun k => μ 39 0 (2 * k + 1)) r b) i = true then 1 else 0)), some (zI ((2 * i : Nat) : Int))] μ (zQ1 K) := by
    intro m
    induction m with
    | zero =>
      intro i hi
      refine k_X12_isSo_5 (d + 2) r b _ _ μ K ?_
      rw [e, z_fix (show (-2147483648 : Int) ≤ 2 * (N : Int) by omega) (by omega)]
      refine ⟨fun _ => ?_, fun q => absurd q (by omega)⟩
      rw [show i = N by omega]
      refine ⟨?_, h⟩
      split
      · exact Or.inr rfl
      · exact Or.inl rfl
    | succ m ih =>
      intro i hi
      have E := ih (i + 1) (by omega)
      rw [zal2_s] at E
      obtain ⟨D, hD1⟩ := Int.eq_ofNat_of_zero_le (hD i (by omega)).1
      have hD2 := (hD i (by omega)).2
      refine k_X12_isSo_5 (d + 2) r b _ _ μ K ?_
      rw [e, z_fix (show (-2147483648 : Int) ≤ 2 * (N : Int) by omega) (by omega), show w32 (((2 * i : Nat) : Int) + 2) = ((2 * (i + 1) : Nat) : Int) by rw [z_fix (by omega) (by omega)]; omega]
      refine ⟨fun q => absurd q (by omega), fun _ => ?_⟩
      by_cases q : zal2 (zfg (rM μ 0) B (fun k => μ 39 0 (2 * k)) (fun k => μ 39 0 (2 * k + 1)) r b) i = true
      · rw [q, Bool.true_and] at E
        rw [if_pos q]
        refine ⟨fun z => absurd z (by decide), fun _ => ⟨⟨by omega, by omega⟩, ?_⟩⟩
        rw [z_i (c := 4) (m := 4 + r) (by omega) (by omega), Int.toNat_natCast, Int.toNat_natCast, g1, hD1, z_fix (show (-2147483648 : Int) ≤ (b : Int) + (D : Int) by omega) (by omega), show (b : Int) + (D : Int) = ((b + D : Nat) : Int) by omega, ← Int.ofNat_tmod, show w32 (((2 * i : Nat) : Int) + 1) = ((2 * i + 1 : Nat) : Int) by rw [z_fix (by omega) (by omega)]; omega, Int.toNat_natCast]
        have hm := Nat.mod_lt (b + D) (show 0 < B r by omega)
        refine ⟨⟨by omega, by omega⟩, by omega, s_mreads d r _ (by omega) (by omega) μ hL _ ⟨⟨by omega, by omega⟩, fun q2 => ?_, fun q2 => ?_⟩⟩
        · have g : ¬ zfg (rM μ 0) B (fun k => μ 39 0 (2 * k)) (fun k => μ 39 0 (2 * k + 1)) r b i = true := by
            show ¬ decide (rM μ 0 r ((b + (μ 39 0 (2 * i)).toNat) % B r) = μ 39 0 (2 * i + 1)) = true
            rw [hD1, Int.toNat_natCast]
            simpa using q2
          rw [if_neg g] at E; exact E
        · have g : zfg (rM μ 0) B (fun k => μ 39 0 (2 * k)) (fun k => μ 39 0 (2 * k + 1)) r b i = true := by
            show decide (rM μ 0 r ((b + (μ 39 0 (2 * i)).toNat) % B r) = μ 39 0 (2 * i + 1)) = true
            rw [hD1, Int.toNat_natCast]
            simpa using q2
          rw [if_pos g] at E; exact E
      · rw [show zal2 (zfg (rM μ 0) B (fun k => μ 39 0 (2 * k)) (fun k => μ 39 0 (2 * k + 1)) r b) i = false by simpa using q, Bool.false_and, if_neg (by decide)] at E
        rw [if_neg q]
        exact ⟨fun _ => E, fun z => absurd rfl z⟩
  exact L N 0 (by omega)
/-- the PLACES, in their order -/
def zps (G : Nat → Nat → Bool) (r : Nat) : Nat → List Nat
  | 0 => []
  | b + 1 => zps G r b ++ (if G r b = true then (100 * r + b) :: [] else [])
def zpl (G : Nat → Nat → Bool) (B : Nat → Nat) : Nat → List Nat
  | 0 => []
  | r + 1 => zpl G B r ++ zps G r (B r)
theorem zps_s (G : Nat → Nat → Bool) (r b : Nat) : zps G r (b + 1) = zps G r b ++ (if G r b = true then (100 * r + b) :: [] else []) := rfl
theorem zpl_s (G : Nat → Nat → Bool) (B : Nat → Nat) (r : Nat) : zpl G B (r + 1) = zpl G B r ++ zps G r (B r) := rfl
theorem zps_len (G : Nat → Nat → Bool) (r : Nat) : ∀ b, (zps G r b).length ≤ b
  | 0 => Nat.le_refl _
  | b + 1 => by
    rw [zps_s, List.length_append]
    have := zps_len G r b
    split
    · show _ + 1 ≤ _; omega
    · show _ + 0 ≤ _; omega
theorem zpl_len (G : Nat → Nat → Bool) (B : Nat → Nat) : ∀ r, (∀ x, x < r → B x ≤ 12) → (zpl G B r).length ≤ 12 * r
  | 0, _ => Nat.le_refl _
  | r + 1, h => by
    rw [zpl_s, List.length_append]
    have h1 := zpl_len G B r (fun x hx => h x (by omega))
    have h2 := zps_len G r (B r)
    have h3 := h r (by omega)
    omega
theorem zps_in (G : Nat → Nat → Bool) (r : Nat) : ∀ b x, x ∈ zps G r b → ∃ c, c < b ∧ x = 100 * r + c
  | 0, x, h => by simp [zps] at h
  | b + 1, x, h => by
    rw [zps_s, List.mem_append] at h
    rcases h with h | h
    · obtain ⟨c, h1, h2⟩ := zps_in G r b x h
      exact ⟨c, by omega, h2⟩
    · split at h
      · simp at h; exact ⟨b, by omega, h⟩
      · simp at h
theorem zpl_in (G : Nat → Nat → Bool) (B : Nat → Nat) : ∀ n x, x ∈ zpl G B n → ∃ r c, r < n ∧ c < B r ∧ x = 100 * r + c
  | 0, x, h => by simp [zpl] at h
  | n + 1, x, h => by
    rw [zpl_s, List.mem_append] at h
    rcases h with h | h
    · obtain ⟨r, c, h1, h2, h3⟩ := zpl_in G B n x h
      exact ⟨r, c, by omega, h2, h3⟩
    · obtain ⟨c, h1, h2⟩ := zps_in G n (B n) x h
      exact ⟨n, c, by omega, h1, h2⟩
