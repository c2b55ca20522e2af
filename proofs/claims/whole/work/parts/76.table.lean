/-! SHORTEST, the class: the table -/
theorem zdow_le (p : Nat → Bool) : ∀ m, zdow p m ≤ m
  | 0 => Nat.le_refl _
  | m + 1 => by
    have ih := zdow_le p m
    unfold zdow
    split <;> omega
theorem zjoin_le (f g : Nat → Int) (a b : Nat) : zjoin f g a b ≤ a ∧ zjoin f g a b ≤ b := by
  have h := zdow_le (zend f g a) (if b < a then b else a)
  unfold zjoin
  generalize zdow (zend f g a) (if b < a then b else a) = x at h ⊢
  by_cases q : b < a
  · rw [if_pos q] at h; omega
  · rw [if_neg q] at h; omega
theorem zbn_6 : ∀ set : Nat, set < 64 → zbn set 6 = false := by decide +kernel
abbrev zvA (A F : Nat → Int) (set a s : Nat) : Int := w32 (A (a * 6 + s) + F (zrmv set s * 7 + s))
theorem s_barsWith (d set a s : Nat) (hs : set < 64) (ha : a < 7) (h6 : s < 6) (μ : zM) (K : Int → zM → Prop) (h : K (zvA (μ 31 0) (μ 32 0) set a s) μ) : zC1 (d + 1) m_X4_barsWith [zR 8 0, zI (set : Int), zI (a : Int), zI (s : Int)] μ K := by
  have hr := (zrm_le set hs s h6).1
  refine k_X4_barsWith d set a s μ K ?_
  rw [zrm_and set hs s h6, z_fix (show (-2147483648 : Int) ≤ (a : Int) * 6 by omega) (by omega), z_fix (show (-2147483648 : Int) ≤ (a : Int) * 6 + (s : Int) by omega) (by omega), z_fix (show (-2147483648 : Int) ≤ ((zrmv set s : Nat) : Int) * 7 by omega) (by omega), z_fix (show (-2147483648 : Int) ≤ ((zrmv set s : Nat) : Int) * 7 + (s : Int) by omega) (by omega), show (a : Int) * 6 + (s : Int) = ((a * 6 + s : Nat) : Int) by omega, show ((zrmv set s : Nat) : Int) * 7 + (s : Int) = ((zrmv set s * 7 + s : Nat) : Int) by omega]
  exact s_at_31 d (a * 6 + s) (by omega) μ _ (s_at_32 d (zrmv set s * 7 + s) (by omega) μ _ h)
theorem s_firstBest (d n set a : Nat) (hn : n ≤ 6) (hs : set < 64) (ha : a < 7) (μ : zM) (e : μ 8 0 2 = (n : Int)) (K : Int → zM → Prop) (h : K (((zfb (zvA (μ 31 0) (μ 32 0) set a) (zbn set) n).1 : Nat) : Int) μ) : zC1 (d + 2) m_X4_firstBest [zR 8 0, zI (set : Int), zI (a : Int)] μ K := by
  refine k_X4_firstBest (d + 1) set a μ K ?_
  have L : ∀ m s : Nat, s + m = n → zJ (d + 2) m_X4_firstBest 9 [some (zR 8 0), some (zI (set : Int)), some (zI (a : Int)), some (zI (((zfb (zvA (μ 31 0) (μ 32 0) set a) (zbn set) s).1 : Nat) : Int)), some (zI (zfb (zvA (μ 31 0) (μ 32 0) set a) (zbn set) s).2), some (zI (s : Int)), none] μ (zQ1 K) := by
    intro m
    induction m with
    | zero =>
      intro s hsm
      refine k_X4_firstBest_9 (d + 1) set a _ _ s μ K ⟨fun _ => ?_, fun q => absurd q (by omega)⟩
      rw [show s = n by omega]
      exact h
    | succ m ih =>
      intro s hsm
      have nx := ih (s + 1) (by omega)
      rw [zfb_s] at nx
      refine k_X4_firstBest_9 (d + 1) set a _ _ s μ K ⟨fun q => absurd q (by omega), fun _ => s_isIn _ set ⟨by omega, by omega⟩ s (by omega) μ _ ?_⟩
      rw [zbn_bit set hs s (by omega), z_fix (show (-2147483648 : Int) ≤ (s : Int) + 1 by omega) (by omega)]
      by_cases hb : zbn set s = true
      · rw [if_pos hb] at nx ⊢
        refine ⟨fun _ => s_barsWith d set a s hs ha (by omega) μ _ ⟨fun q => ?_, fun q => ?_⟩, fun z => absurd (show (1 : Int) ≠ 0 by decide) z⟩
        · rw [if_neg (by omega)] at nx
          exact nx
        · rw [if_pos (by omega)] at nx
          exact nx
      · rw [if_neg hb] at nx ⊢
        exact ⟨fun z => absurd rfl z, fun _ => nx⟩
  exact L n 0 (by omega)
/-- what the class finds for a set, behind a -/
def zbB (n : Nat) (A F : Nat → Int) (set a : Nat) : Int := if set = 0 then 0 else zvA A F set a (zfb (zvA A F set a) (zbn set) n).1
theorem s_barsBehind (d n set a : Nat) (hn : n ≤ 6) (hs : set < 64) (ha : a < 7) (μ : zM) (e : μ 8 0 2 = (n : Int)) (K : Int → zM → Prop) (h : K (zbB n (μ 31 0) (μ 32 0) set a) μ) : zC1 (d + 3) m_X4_barsBehind [zR 8 0, zI (set : Int), zI (a : Int)] μ K := by
  unfold zbB at h
  refine k_X4_barsBehind (d + 2) set a μ K ⟨fun q => ?_, fun q => ?_⟩
  · rw [if_neg (by omega)] at h
    refine s_firstBest d n set a hn hs ha μ e _ (s_barsWith (d + 1) set a _ hs ha ?_ μ _ h)
    rcases zfb_iv (zvA (μ 31 0) (μ 32 0) set a) (zbn set) n with ⟨q, -⟩ | ⟨q, -⟩
    · rw [q]; show 0 < 6; omega
    · omega
  · rw [if_pos (by omega)] at h
    exact h
def zTab (n : Nat) (A F : Nat → Int) (S a : Nat) : Prop := ∀ set b, set < 2 ^ n → (set < S ∨ (set = S ∧ b < a)) → zah n b → zbn set b = false → F (set * 7 + b) = zGv n A (zpp set) set b
theorem zTab_fb {n : Nat} {A F : Nat → Int} {S a m : Nat} (hn : n ≤ 6) (hA : zA12 n A) (hS : S < 2 ^ n) (ha : zah n a) (hm : zpp S = m + 1) (hT : ∀ set b, set < S → zah n b → zbn set b = false → F (set * 7 + b) = zGv n A (zpp set) set b) : zfb (zvA A F S a) (zbn S) n = zfb (fun s => A (a * 6 + s) + zGv n A m (zrmv S s) s) (zbn S) n := by
  have h64 := z_p6 hn
  refine zfb_ext (fun k hk hb => ?_)
  obtain ⟨g1, g2⟩ := zrm_le S (by omega) k (by omega)
  obtain ⟨g2, g3, g4⟩ := g2 hb
  have hk2 := hT (zrmv S k) k g2 (Or.inr hk) g3
  have em : zpp (zrmv S k) = m := by omega
  rw [em] at hk2
  show w32 (A (a * 6 + k) + F (zrmv S k * 7 + k)) = A (a * 6 + k) + zGv n A m (zrmv S k) k
  rw [hk2]
  have r1 := hA a k ha hk
  have r2 := zG_rg hn hA m (zrmv S k) k (Or.inr hk) (by omega) em
  have hm6 : zpp S ≤ 6 := by
    have h7 : ∀ set : Nat, set < 64 → zpp set ≤ 6 := by decide +kernel
    exact h7 S (by omega)
  exact z_fix (by omega) (by omega)
theorem zfb_G {n : Nat} {A : Nat → Int} {S a m : Nat} (hn : n ≤ 6) (hA : zA12 n A) (hS : S < 2 ^ n) (ha : zah n a) (hm : zpp S = m + 1) : (zfb (fun s => A (a * 6 + s) + zGv n A m (zrmv S s) s) (zbn S) n).1 < n ∧ zbn S (zfb (fun s => A (a * 6 + s) + zGv n A m (zrmv S s) s) (zbn S) n).1 = true ∧ (zfb (fun s => A (a * 6 + s) + zGv n A m (zrmv S s) s) (zbn S) n).2 = A (a * 6 + (zfb (fun s => A (a * 6 + s) + zGv n A m (zrmv S s) s) (zbn S) n).1) + zGv n A m (zrmv S (zfb (fun s => A (a * 6 + s) + zGv n A m (zrmv S s) s) (zbn S) n).1) (zfb (fun s => A (a * 6 + s) + zGv n A m (zrmv S s) s) (zbn S) n).1 := by
  have h64 := z_p6 hn
  have hs0 : S ≠ 0 := fun e => by
    have := (zpp_0 S (by omega)).mpr e
    omega
  obtain ⟨b1, b2⟩ := zfi_ok n (by omega) S hS hs0
  have r1 := hA a _ ha b2
  obtain ⟨g1, g2⟩ := zrm_le S (by omega) (zfi S) (by omega)
  obtain ⟨g2, g3, g4⟩ := g2 b1
  have r2 := zG_rg hn hA m (zrmv S (zfi S)) (zfi S) (Or.inr b2) (by omega) (by omega)
  have hm6 : zpp S ≤ 6 := by
    have h7 : ∀ set : Nat, set < 64 → zpp set ≤ 6 := by decide +kernel
    exact h7 S (by omega)
  obtain ⟨f1, f2, f3, f4⟩ := zfb_ok (v := fun s => A (a * 6 + s) + zGv n A m (zrmv S s) s) b2 b1 (by show A (a * 6 + zfi S) + zGv n A m (zrmv S (zfi S)) (zfi S) < 73; omega)
  exact ⟨f1, f2, f3⟩
theorem zTab_val {n : Nat} {A F : Nat → Int} {S a : Nat} (hn : n ≤ 6) (hA : zA12 n A) (hS : S < 2 ^ n) (ha : zah n a) (hT : zTab n A F S a) : zbB n A F S a = zGv n A (zpp S) S a := by
  have h64 := z_p6 hn
  unfold zbB
  by_cases h0 : S = 0
  · subst h0; rfl
  · rw [if_neg h0]
    have hp : zpp S ≠ 0 := fun z => h0 ((zpp_0 S (by omega)).mp z)
    obtain ⟨m, hm⟩ := Nat.exists_eq_succ_of_ne_zero hp
    have hT2 : ∀ set b, set < S → zah n b → zbn set b = false → F (set * 7 + b) = zGv n A (zpp set) set b := fun set b q1 q2 q3 => hT set b (by omega) (Or.inl q1) q2 q3
    have e := zTab_fb hn hA hS ha hm hT2
    obtain ⟨f1, f2, f3⟩ := zfb_G hn hA hS ha hm
    rw [e, hm, zG_s]
    generalize zfb (fun s => A (a * 6 + s) + zGv n A m (zrmv S s) s) (zbn S) n = r at f1 f2 f3 ⊢
    rw [f3]
    obtain ⟨g1, g2⟩ := zrm_le S (by omega) r.1 (by omega)
    obtain ⟨g2, g3, g4⟩ := g2 f2
    have em : zpp (zrmv S r.1) = m := by omega
    have hk2 := hT2 (zrmv S r.1) r.1 g2 (Or.inr f1) g3
    rw [em] at hk2
    show w32 (A (a * 6 + r.1) + F (zrmv S r.1 * 7 + r.1)) = _
    rw [hk2]
    have r1 := hA a r.1 ha f1
    have r2 := zG_rg hn hA m (zrmv S r.1) r.1 (Or.inr f1) (by omega) em
    have hm6 : zpp S ≤ 6 := by
      have h7 : ∀ set : Nat, set < 64 → zpp set ≤ 6 := by decide +kernel
      exact h7 S (by omega)
    exact z_fix (by omega) (by omega)
/-- the table is filled -/
theorem s_fill (d n : Nat) (hn : n ≤ 6) (μ : zM) (e : μ 8 0 2 = (n : Int)) (hA : zA12 n (μ 31 0)) (K : zM → Prop) (hK : ∀ μ', (∀ t i k, t ≠ 32 → μ' t i k = μ t i k) → zTab n (μ 31 0) (μ' 32 0) (2 ^ n) 0 → K μ') : zJ (d + 5) m_X4_reckon 105 [some (zR 8 0), none, some (zI 0), none, none, none] μ (zQ0 K) := by
  have h64 := z_p6 hn
  have L : ∀ m S : Nat, S + m = 2 ^ n → ∀ μ', (∀ t i k, t ≠ 32 → μ' t i k = μ t i k) → zTab n (μ 31 0) (μ' 32 0) S 0 → zJ (d + 5) m_X4_reckon 105 [some (zR 8 0), none, some (zI (S : Int)), none, none, none] μ' (zQ0 K) := by
    intro m
    induction m with
    | zero =>
      intro S hSm μ' hf hT
      have e' : μ' 8 0 2 = (n : Int) := by rw [hf _ _ _ (by omega)]; exact e
      refine k_X4_reckon_105 (d + 4) S μ' K ⟨fun _ => ?_, fun q => ?_⟩
      · rw [show S = 2 ^ n by omega] at hT
        exact hK μ' hf hT
      · rw [e', z_shlN n (by omega)] at q
        exact absurd q (by omega)
    | succ m ih =>
      intro S hSm μ' hf hT
      have e' : μ' 8 0 2 = (n : Int) := by rw [hf _ _ _ (by omega)]; exact e
      refine k_X4_reckon_105 (d + 4) S μ' K ⟨fun q => ?_, fun _ => ?_⟩
      · rw [e', z_shlN n (by omega)] at q
        exact absurd q (by omega)
      have L2 : ∀ m2 a : Nat, a + m2 = 7 → ∀ μ', (∀ t i k, t ≠ 32 → μ' t i k = μ t i k) → zTab n (μ 31 0) (μ' 32 0) S a → zJ (d + 5) m_X4_reckon 117 [some (zR 8 0), none, some (zI (S : Int)), some (zI (a : Int)), none, none] μ' (zQ0 K) := by
        intro m2
        induction m2 with
        | zero =>
          intro a ha μ' hf hT
          refine k_X4_reckon_117 (d + 4) S a μ' K ⟨fun _ => ?_, fun q => absurd q (by omega)⟩
          rw [z_fix (by omega) (by omega)]
          refine ih (S + 1) (by omega) μ' hf (fun set b q1 q2 q3 q4 => hT set b q1 ?_ q3 q4)
          unfold zah at q3
          omega
        | succ m2 ih2 =>
          intro a ha μ' hf hT
          have e' : μ' 8 0 2 = (n : Int) := by rw [hf _ _ _ (by omega)]; exact e
          refine k_X4_reckon_117 (d + 4) S a μ' K ⟨fun q => absurd q (by omega), fun _ => s_barsBehind (d + 1) n S a hn (by omega) (by omega) μ' e' _ ?_⟩
          rw [z_fix (show (-2147483648 : Int) ≤ (S : Int) * 7 by omega) (by omega), z_fix (show (-2147483648 : Int) ≤ (S : Int) * 7 + (a : Int) by omega) (by omega), z_fix (show (-2147483648 : Int) ≤ (a : Int) + 1 by omega) (by omega), show (S : Int) * 7 + (a : Int) = ((S * 7 + a : Nat) : Int) by omega]
          refine s_put_32 _ (S * 7 + a) (by omega) _ μ' _ (ih2 (a + 1) (by omega) _ (fun t i k q => by rw [zo (by omega)]; exact hf t i k q) (fun set b q1 q2 q3 q4 => ?_))
          have hb : b < 7 := by unfold zah at q3; omega
          have e31 : μ' 31 0 = μ 31 0 := funext fun k => hf _ _ _ (by omega)
          by_cases q : set = S ∧ b = a
          · obtain ⟨rfl, rfl⟩ := q
            rw [zset_self, e31]
            exact zTab_val hn hA q1 q3 hT
          · rw [zo (by omega)]
            exact hT set b q1 (by omega) q3 q4
      exact L2 7 0 (by omega) μ' hf hT
  refine L (2 ^ n) 0 (by omega) μ (fun _ _ _ _ => rfl) (fun set b q1 q2 _ _ => ?_)
  omega
def zAd (n : Nat) (B : Nat → Nat) (J : Nat → Nat → Nat) (A : Nat → Int) (s r : Nat) : Prop := (∀ t, t < s → A (36 + t) = (B t : Int)) ∧ ∀ x t, x < n → (t < s ∨ (t = s ∧ x < r)) → A (x * 6 + t) = (B t : Int) - (if x = t then 0 else ((J x t : Nat) : Int))
abbrev zJC (μ : zM) (B : Nat → Nat) (x t : Nat) : Nat := zjoin (rC μ 0 x) (rC μ 0 t) (B x) (B t)
theorem zAd_12 {n : Nat} {B : Nat → Nat} {J : Nat → Nat → Nat} {A : Nat → Int} (hB : ∀ r, r < n → 1 ≤ B r ∧ B r ≤ 12) (hJ : ∀ x t, J x t ≤ B t) (h : zAd n B J A n 0) : zA12 n A := by
  intro a s ha hs
  have hb := hB s hs
  rcases ha with rfl | ha
  · rw [show 6 * 6 + s = 36 + s by omega, h.1 s hs]; omega
  · rw [h.2 a s ha (Or.inl hs)]
    have := hJ a s
    split <;> omega
theorem s_reckon (d n : Nat) (μ : zM) {B : Nat → Nat} (hH : zHc μ n B) (hL : zLc μ 0) (K : zM → Prop) (hK : ∀ μ', (∀ t i k, ¬ (t = 8 ∧ k = 2) → t ≠ 31 → t ≠ 32 → μ' t i k = μ t i k) → μ' 8 0 2 = (n : Int) → zAd n B (zJC μ B) (μ' 31 0) n 0 → zTab n (μ' 31 0) (μ' 32 0) (2 ^ n) 0 → K μ') : zC0 (d + 7) m_X4_reckon [zR 8 0, zR 4 0] μ K := by
  have hn := hH.2.1
  have hB : ∀ r, r < n → 1 ≤ B r ∧ B r ≤ 12 := fun r hr => ⟨(hH.2.2.1 r hr).2.1, (hH.2.2.1 r hr).2.2⟩
  refine k_X4_reckon (d + 6) 0 μ K ?_
  rw [hH.1]
  have L : ∀ m s : Nat, s + m = n → ∀ μ', (∀ t i k, ¬ (t = 8 ∧ k = 2) → t ≠ 31 → t ≠ 32 → μ' t i k = μ t i k) → μ' 8 0 2 = (n : Int) → zAd n B (zJC μ B) (μ' 31 0) s 0 → zJ (d + 7) m_X4_reckon 13 [some (zR 8 0), some (zR 4 0), some (zI (s : Int)), none, none, none] μ' (zQ0 K) := by
    intro m
    induction m with
    | zero =>
      intro s hs μ' hf e ha
      refine k_X4_reckon_13 (d + 6) 0 s μ' K ⟨fun _ => ?_, fun q => absurd q (by omega)⟩
      rw [show s = n by omega] at ha
      refine s_fill (d + 2) n hn μ' e (zAd_12 hB (fun x t => (zjoin_le _ _ _ _).2) ha) K (fun μ2 hf2 hT => ?_)
      have e31 : μ2 31 0 = μ' 31 0 := funext fun k => hf2 _ _ _ (by omega)
      rw [← e31] at ha hT
      exact hK μ2 (fun t i k q1 q2 q3 => by rw [hf2 t i k q3]; exact hf t i k q1 q2 q3) (by rw [hf2 _ _ _ (by omega)]; exact e) ha hT
    | succ m ih =>
      intro s hs μ' hf e ha
      have hHc' : zHc μ' n B := zHc_cg (fun t k z => hf _ _ _ (by omega) (by omega) (by omega)) hH
      refine k_X4_reckon_13 (d + 6) 0 s μ' K ⟨fun q => absurd q (by omega), fun _ => s_barsOf (d + 5) 0 s (by omega) μ' _ ?_⟩
      rw [(hHc'.2.2.1 s (by omega)).1]
      have L2 : ∀ m2 r : Nat, r + m2 = n → ∀ μ', (∀ t i k, ¬ (t = 8 ∧ k = 2) → t ≠ 31 → t ≠ 32 → μ' t i k = μ t i k) → μ' 8 0 2 = (n : Int) → zAd n B (zJC μ B) (μ' 31 0) s r → zJ (d + 7) m_X4_reckon 33 [some (zR 8 0), some (zR 4 0), some (zI (s : Int)), some (zI (B s : Int)), some (zI (r : Int)), none] μ' (zQ0 K) := by
        intro m2
        induction m2 with
        | zero =>
          intro r hr μ' hf e ha
          refine k_X4_reckon_33 (d + 6) 0 s _ r μ' K ⟨fun _ => ?_, fun q => absurd q (by omega)⟩
          rw [z_i (c := 36) (m := 36 + s) (by omega) (by omega), z_fix (show (-2147483648 : Int) ≤ (s : Int) + 1 by omega) (by omega)]
          refine s_put_31 _ (36 + s) (by omega) _ μ' _ (ih (s + 1) (by omega) _ (fun t i k q1 q2 q3 => by rw [zo (by omega)]; exact hf t i k q1 q2 q3) (by rw [zo (by omega)]; exact e) ⟨fun t ht => ?_, fun x t hx ht => ?_⟩)
          · by_cases q : t = s
            · subst q; rw [zset_self]
            · rw [zo (by omega)]; exact ha.1 t (by omega)
          · rw [zo (by omega)]; exact ha.2 x t hx (by omega)
        | succ m2 ih2 =>
          intro r hr μ' hf e ha
          have hHc' : zHc μ' n B := zHc_cg (fun t k z => hf _ _ _ (by omega) (by omega) (by omega)) hH
          have hLc' : zLc μ' 0 := fun x hx => by rw [hf _ _ _ (by omega) (by omega) (by omega)]; exact hL x hx
          have er : rC μ' 0 = rC μ 0 := by
            funext x y
            unfold rC
            rw [hf _ _ _ (by omega) (by omega) (by omega), hf _ _ _ (by omega) (by omega) (by omega), hf _ _ _ (by omega) (by omega) (by omega)]
          have hbs := hB s (by omega)
          have go : ∀ v : Int, v = (B s : Int) - (if r = s then 0 else ((zJC μ B r s : Nat) : Int)) → zJ (d + 7) m_X4_reckon 33 [some (zR 8 0), some (zR 4 0), some (zI (s : Int)), some (zI (B s : Int)), some (zI ((r + 1 : Nat) : Int)), none] (zset μ' 31 0 (r * 6 + s) v) (zQ0 K) := by
            intro v hv
            refine ih2 (r + 1) (by omega) _ (fun t i k q1 q2 q3 => by rw [zo (by omega)]; exact hf t i k q1 q2 q3) (by rw [zo (by omega)]; exact e) ⟨fun t ht => ?_, fun x t hx ht => ?_⟩
            · rw [zo (by omega)]; exact ha.1 t ht
            · by_cases q : x = r ∧ t = s
              · obtain ⟨rfl, rfl⟩ := q
                rw [zset_self]; exact hv
              · rw [zo (by omega)]; exact ha.2 x t hx (by omega)
          refine k_X4_reckon_33 (d + 6) 0 s _ r μ' K ⟨fun q => absurd q (by omega), fun _ => ?_⟩
          rw [z_fix (show (-2147483648 : Int) ≤ (r : Int) * 6 by omega) (by omega), z_fix (show (-2147483648 : Int) ≤ (r : Int) * 6 + (s : Int) by omega) (by omega), z_fix (show (-2147483648 : Int) ≤ (r : Int) + 1 by omega) (by omega), show (r : Int) * 6 + (s : Int) = ((r * 6 + s : Nat) : Int) by omega]
          refine ⟨fun q => s_sharedEnd (d + 2) 0 r s μ' hHc' (by omega) (by omega) hLc' _ ?_, fun q => ?_⟩
          · rw [er]
            have hj := zjoin_le (rC μ 0 r) (rC μ 0 s) (B r) (B s)
            rw [z_fix (by omega) (by omega)]
            refine s_put_31 _ (r * 6 + s) (by omega) _ μ' _ (go _ ?_)
            rw [if_neg (by omega)]
          · rw [z_fix (by omega) (by omega)]
            refine s_put_31 _ (r * 6 + s) (by omega) _ μ' _ (go _ ?_)
            rw [if_pos (by omega)]
      exact L2 n 0 (by omega) μ' hf e ⟨ha.1, fun x t hx ht => ha.2 x t hx (by omega)⟩
  exact L n 0 (by omega) _ (fun t i k q1 q2 q3 => zo (by omega)) (zset_self _ _ _ _ _) ⟨fun t ht => absurd ht (by omega), fun x t _ ht => by omega⟩
/-- figures, one behind another -/
def zfgr : Int → List Nat → Int
  | x, [] => x
  | x, s :: t => zfgr (x * 10 + s + 1) t
theorem s_leastNumber (d n : Nat) (hn : n ≤ 6) (μ : zM) (e : μ 8 0 2 = (n : Int)) (hA : zA12 n (μ 31 0)) (hT : zTab n (μ 31 0) (μ 32 0) (2 ^ n) 0) (K : Int → zM → Prop) (h : K (zfgr 0 (zgr n (μ 31 0) n (2 ^ n - 1) 6)) μ) : zC1 (d + 3) m_X4_leastNumber [zR 8 0] μ K := by
  have h64 := z_p6 hn
  have h1 : 1 ≤ 2 ^ n := Nat.pos_of_ne_zero (by
    intro z
    have := Nat.pow_eq_zero.mp z
    omega)
  refine k_X4_leastNumber (d + 2) μ K ?_
  rw [e, z_shlN n (by omega), z_fix (by omega) (by omega), show ((2 ^ n : Nat) : Int) - 1 = ((2 ^ n - 1 : Nat) : Int) by omega]
  have L : ∀ m i : Nat, i + m = n → ∀ x set a : Nat, x < 10 ^ i → set < 2 ^ n → zpp set = m → zah n a → zbn set a = false → zfgr (x : Int) (zgr n (μ 31 0) m set a) = zfgr 0 (zgr n (μ 31 0) n (2 ^ n - 1) 6) → zJ (d + 3) m_X4_leastNumber 17 [some (zR 8 0), some (zI (x : Int)), some (zI (set : Int)), some (zI (a : Int)), some (zI (i : Int)), none] μ (zQ1 K) := by
    intro m
    induction m with
    | zero =>
      intro i hi x set a hx hs hm ha hb hr
      refine k_X4_leastNumber_17 (d + 2) x set a i μ K ⟨fun _ => ?_, fun q => absurd q (by omega)⟩
      have hr2 : (x : Int) = zfgr 0 (zgr n (μ 31 0) n (2 ^ n - 1) 6) := hr
      rw [hr2]
      exact h
    | succ m ih =>
      intro i hi x set a hx hs hm ha hb hr
      have ha7 : a < 7 := by unfold zah at ha; omega
      refine k_X4_leastNumber_17 (d + 2) x set a i μ K ⟨fun q => absurd q (by omega), fun _ => s_firstBest d n set a hn (by omega) ha7 μ e _ ?_⟩
      rw [zTab_fb hn hA hs ha hm (fun set' b q1 q2 q3 => hT set' b (by omega) (Or.inl (by omega)) q2 q3)]
      rw [zgr_s] at hr
      obtain ⟨f1, f2, f3⟩ := zfb_G hn hA hs ha hm
      generalize zfb (fun s => (μ 31 0) (a * 6 + s) + zGv n (μ 31 0) m (zrmv set s) s) (zbn set) n = r at f1 f2 f3 hr ⊢
      obtain ⟨g1, g2⟩ := zrm_le set (by omega) r.1 (by omega)
      obtain ⟨g2, g3, g4⟩ := g2 f2
      have hp : 10 ^ (i + 1) = 10 ^ i * 10 := Nat.pow_succ _ _
      have hp2 : 10 ^ i ≤ 10 ^ 6 := Nat.pow_le_pow_right (by omega) (by omega)
      have hp3 : (10 : Nat) ^ 6 = 1000000 := rfl
      rw [hp3] at hp2
      rw [zrm_and set (by omega) r.1 (by omega), z_fix (show (-2147483648 : Int) ≤ (x : Int) * 10 by omega) (by omega), z_fix (show (-2147483648 : Int) ≤ (x : Int) * 10 + (r.1 : Int) by omega) (by omega), z_fix (show (-2147483648 : Int) ≤ (x : Int) * 10 + (r.1 : Int) + 1 by omega) (by omega), z_fix (show (-2147483648 : Int) ≤ (i : Int) + 1 by omega) (by omega)]
      have hr2 : zfgr ((x : Int) * 10 + (r.1 : Int) + 1) (zgr n (μ 31 0) m (zrmv set r.1) r.1) = zfgr 0 (zgr n (μ 31 0) n (2 ^ n - 1) 6) := hr
      rw [show (x : Int) * 10 + (r.1 : Int) + 1 = ((x * 10 + r.1 + 1 : Nat) : Int) by omega] at hr2 ⊢
      exact ih (i + 1) (by omega) (x * 10 + r.1 + 1) (zrmv set r.1) r.1 (by omega) (by omega) (by omega) (Or.inr f1) g3 hr2
  exact L n 0 (by omega) 0 (2 ^ n - 1) 6 (by omega) (by omega) (zpp_n n (by omega)) (Or.inl rfl) (zbn_6 _ (by omega)) rfl
theorem s_fewestBars (d n : Nat) (hn : n ≤ 6) (μ : zM) (e : μ 8 0 2 = (n : Int)) (hT : zTab n (μ 31 0) (μ 32 0) (2 ^ n) 0) (K : Int → zM → Prop) (h : K (zGv n (μ 31 0) n (2 ^ n - 1) 6) μ) : zC1 (d + 1) m_X4_fewestBars [zR 8 0] μ K := by
  have h64 := z_p6 hn
  have h1 : 1 ≤ 2 ^ n := Nat.pos_of_ne_zero (by
    intro z
    have := Nat.pow_eq_zero.mp z
    omega)
  refine k_X4_fewestBars d μ K ?_
  rw [e, z_shlN n (by omega), z_fix (show (-2147483648 : Int) ≤ ((2 ^ n : Nat) : Int) - 1 by omega) (by omega), z_fix (show (-2147483648 : Int) ≤ (((2 ^ n : Nat) : Int) - 1) * 7 by omega) (by omega), z_fix (show (-2147483648 : Int) ≤ (((2 ^ n : Nat) : Int) - 1) * 7 + 6 by omega) (by omega), show (((2 ^ n : Nat) : Int) - 1) * 7 + 6 = (((2 ^ n - 1) * 7 + 6 : Nat) : Int) by omega]
  refine s_at_32 d ((2 ^ n - 1) * 7 + 6) (by omega) μ _ ?_
  rw [hT (2 ^ n - 1) 6 (by omega) (Or.inl (by omega)) (Or.inl rfl) (zbn_6 _ (by omega)), zpp_n n (by omega)]
  exact h
