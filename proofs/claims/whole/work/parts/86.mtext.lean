/-! THE TEXT: the model, words and numbers -/
def zfm0 (μ0 μ : zM) : Prop := ∀ t i k, ¬ (t = 9 ∧ 16 ≤ k) → ¬ (t = 33 ∧ i = 1) → μ t i k = μ0 t i k
theorem zfm0_r (μ : zM) : zfm0 μ μ := fun _ _ _ _ _ => rfl
theorem zfm0_9 {μ0 μ : zM} (h : zfm0 μ0 μ) (k : Nat) (v : Int) (hk : 16 ≤ k) : zfm0 μ0 (zset μ 9 0 k v) := fun t i x q1 q2 => by rw [zo (by omega)]; exact h t i x q1 q2
theorem zfm0_33 {μ0 μ : zM} (h : zfm0 μ0 μ) (k : Nat) (v : Int) : zfm0 μ0 (zset μ 33 1 k v) := fun t i x q1 q2 => by rw [zo (by omega)]; exact h t i x q1 q2
/-- the model reads at a; R is told -/
def zMst (μ0 : zM) (T : Nat → Int) (L a : Nat) (R : Nat → Int) (μ : zM) : Prop := (μ 9 0 10 = (L : Int) ∧ μ 9 0 16 = (a : Int) ∧ a ≤ L) ∧ (∀ k, k < L → μ 38 0 k = T k) ∧ (∀ k, k < 199 → μ 33 1 k = R k) ∧ zfm0 μ0 μ
theorem zMst_9 {μ0 μ : zM} {T : Nat → Int} {L a : Nat} {R : Nat → Int} (h : zMst μ0 T L a R μ) (k : Nat) (v : Int) (hk : 17 ≤ k) : zMst μ0 T L a R (zset μ 9 0 k v) := by
  obtain ⟨⟨h1, h2, h3⟩, h4, h5, h6⟩ := h
  exact ⟨⟨by rw [zo (by omega)]; exact h1, by rw [zo (by omega)]; exact h2, h3⟩, fun j hj => by rw [zo (by omega)]; exact h4 j hj, fun j hj => by rw [zo (by omega)]; exact h5 j hj, zfm0_9 h6 k v (by omega)⟩
theorem zMst_at {μ0 μ : zM} {T : Nat → Int} {L a : Nat} {R : Nat → Int} (h : zMst μ0 T L a R μ) (b : Nat) (hb : b ≤ L) : zMst μ0 T L b R (zset μ 9 0 16 (b : Int)) := by
  obtain ⟨⟨h1, h2, h3⟩, h4, h5, h6⟩ := h
  exact ⟨⟨by rw [zo (by omega)]; exact h1, zset_self _ _ _ _ _, hb⟩, fun j hj => by rw [zo (by omega)]; exact h4 j hj, fun j hj => by rw [zo (by omega)]; exact h5 j hj, zfm0_9 h6 16 _ (by omega)⟩
theorem zMst_33 {μ0 μ : zM} {T : Nat → Int} {L a : Nat} {R : Nat → Int} (h : zMst μ0 T L a R μ) (k : Nat) (v : Int) : zMst μ0 T L a (zu R k v) (zset μ 33 1 k v) := by
  obtain ⟨⟨h1, h2, h3⟩, h4, h5, h6⟩ := h
  refine ⟨⟨by rw [zo (by omega)]; exact h1, by rw [zo (by omega)]; exact h2, h3⟩, fun j hj => by rw [zo (by omega)]; exact h4 j hj, fun j hj => ?_, zfm0_33 h6 k v⟩
  by_cases q : j = k
  · subst q; rw [zset_self, zu_i]
  · rw [zo (by omega), zu_o q]; exact h5 j hj
theorem zMst_199 {μ0 μ : zM} {T : Nat → Int} {L a : Nat} {R : Nat → Int} (h : zMst μ0 T L a R μ) (v : Int) : zMst μ0 T L a R (zset μ 33 1 199 v) := by
  obtain ⟨⟨h1, h2, h3⟩, h4, h5, h6⟩ := h
  exact ⟨⟨by rw [zo (by omega)]; exact h1, by rw [zo (by omega)]; exact h2, h3⟩, fun j hj => by rw [zo (by omega)]; exact h4 j hj, fun j hj => by rw [zo (by omega)]; exact h5 j hj, zfm0_33 h6 199 v⟩
theorem m_here (d : Nat) {μ0 μ : zM} {T : Nat → Int} {L a : Nat} {R : Nat → Int} (hL : L ≤ 240) (h : zMst μ0 T L a R μ) (K : Int → zM → Prop) (hK : K (zlt T L a) μ) : zC1 d m_X12_here [zR 9 0] μ K := by
  obtain ⟨⟨h1, h2, h3⟩, h4, h5, h6⟩ := h
  unfold zlt at hK
  refine k_X12_here d μ K ?_
  rw [h1, h2, Int.toNat_natCast]
  by_cases q : a < L
  · rw [if_pos q] at hK
    refine ⟨fun z => absurd z (by omega), fun _ => ⟨⟨by omega, by omega⟩, ?_⟩⟩
    rw [h4 a q]; exact hK
  · rw [if_neg q] at hK
    exact ⟨fun _ => hK, fun z => absurd z (by omega)⟩
/-- what a step finds: begin, sign, how many figures, their value, where it stands then -/
def zStp (T : Nat → Int) (L a : Nat) (μ : zM) (e : Nat) : Prop := μ 9 0 17 = ((zsb T L a : Nat) : Int) ∧ ((zsd T L (zsb T L a) = zsb T L a ∧ μ 9 0 18 = zlt T L (zsb T L a) ∧ ¬ (48 ≤ zlt T L (zsb T L a) ∧ zlt T L (zsb T L a) ≤ 57) ∧ e = (if 0 ≤ zlt T L (zsb T L a) then zsb T L a + 1 else zsb T L a)) ∨ (zsb T L a < zsd T L (zsb T L a) ∧ μ 9 0 18 = 48 ∧ μ 9 0 19 = ((zsd T L (zsb T L a) - zsb T L a : Nat) : Int) ∧ (zsd T L (zsb T L a) ≤ zsb T L a + 3 → μ 9 0 20 = zvv T (zsb T L a) (zsd T L (zsb T L a) - zsb T L a)) ∧ e = zsd T L (zsb T L a)))
theorem m_step (d : Nat) {μ0 μ : zM} {T : Nat → Int} {L a : Nat} {R : Nat → Int} (hL : L ≤ 240) (hT : ∀ k, k < L → 0 ≤ T k ∧ T k ≤ 255) (h : zMst μ0 T L a R μ) (K : zM → Prop) (hK : ∀ e μ', zMst μ0 T L e R μ' → zStp T L a μ' e → K μ') : zC0 (d + 1) m_X12_step [zR 9 0] μ K := by
  refine k_X12_step d μ K ?_
  have ha := h.1.2.2
  have M : ∀ m x : Nat, x + m = L → zsb T L x = zsb T L a → ∀ μ', zMst μ0 T L x R μ' → zJ (d + 1) m_X12_step 0 [some (zR 9 0)] μ' (zQ0 K) := by
    intro m
    induction m with
    | zero =>
      intro x hx hz μ' h'
      have hx2 : x = L := by omega
      rw [zsb_n (a := x) (by omega) (fun q => absurd q (by omega))] at hz
      have e0 : zlt T L x = -1 := by unfold zlt; rw [if_neg (by omega)]
      refine k_X12_step_0 d μ' K (m_here d hL h' _ ⟨fun _ => ?_, fun q => absurd (by rw [e0]; decide) q⟩)
      rw [h'.1.2.1]
      have h17 := zMst_9 h' 17 (x : Int) (by omega)
      refine m_here d hL h17 _ ?_
      rw [e0, zo (by omega), zo (by omega), zset_self]
      have h20 := zMst_9 (zMst_9 (zMst_9 h17 18 (-1) (by omega)) 19 0 (by omega)) 20 0 (by omega)
      refine s_in _ _ _ _ _ _ (fun q _ => absurd q (by omega)) (fun _ => ⟨fun z => absurd rfl z, fun _ => ⟨fun z => ?_, fun _ => ?_⟩⟩)
      · rw [zo (by omega), zo (by omega), zset_self] at z; omega
      · rw [h20.1.2.1, show w32 ((x : Int) + 0) = (x : Int) from by rw [z_fix (by omega) (by omega)]; omega]
        refine hK x _ (zMst_at h20 x (by omega)) ⟨?_, Or.inl ⟨?_, ?_, ?_, ?_⟩⟩
        · rw [zo (by omega), zo (by omega), zo (by omega), zo (by omega), zset_self, ← hz]
        · rw [← hz]; exact zsd_n (by omega) (fun q => absurd q (by omega))
        · rw [zo (by omega), zo (by omega), zo (by omega), zset_self, ← hz]; exact e0.symm
        · rw [← hz, e0]; omega
        · rw [← hz, e0, if_neg (by omega)]
    | succ m ih =>
      intro x hx hz μ' h'
      have hxL : x < L := by omega
      have ex : zlt T L x = T x := by unfold zlt; rw [if_pos hxL]
      have hTx := hT x hxL
      refine k_X12_step_0 d μ' K (m_here d hL h' _ ⟨fun q => ?_, fun q => ?_⟩)
      · rw [ex] at q
        rw [zsb_n (a := x) (by omega) (fun _ => q)] at hz
        rw [h'.1.2.1]
        have h17 := zMst_9 h' 17 (x : Int) (by omega)
        refine m_here d hL h17 _ ?_
        rw [ex, zo (by omega), zo (by omega), zset_self]
        have h20 := zMst_9 (zMst_9 (zMst_9 h17 18 (T x) (by omega)) 19 0 (by omega)) 20 0 (by omega)
        have b17 : (zset (zset (zset (zset μ' 9 0 17 (x : Int)) 9 0 18 (T x)) 9 0 19 0) 9 0 20 0) 9 0 17 = (x : Int) := by rw [zo (by omega), zo (by omega), zo (by omega), zset_self]
        have b18 : (zset (zset (zset (zset μ' 9 0 17 (x : Int)) 9 0 18 (T x)) 9 0 19 0) 9 0 20 0) 9 0 18 = T x := by rw [zo (by omega), zo (by omega), zset_self]
        have b19 : (zset (zset (zset (zset μ' 9 0 17 (x : Int)) 9 0 18 (T x)) 9 0 19 0) 9 0 20 0) 9 0 19 = 0 := by rw [zo (by omega), zset_self]
        have b20 : (zset (zset (zset (zset μ' 9 0 17 (x : Int)) 9 0 18 (T x)) 9 0 19 0) 9 0 20 0) 9 0 20 = 0 := zset_self _ _ _ _ _
        generalize zset (zset (zset (zset μ' 9 0 17 (x : Int)) 9 0 18 (T x)) 9 0 19 0) 9 0 20 0 = ν at h20 b17 b18 b19 b20 ⊢
        refine s_in _ _ _ _ _ _ (fun q1 q2 => ⟨fun _ => ?_, fun z => absurd (show (1 : Int) ≠ 0 by decide) z⟩) (fun q1 => ⟨fun z => absurd rfl z, fun _ => ⟨fun _ => ?_, fun z => absurd (by rw [b18]; omega) z⟩⟩)
        · have h18 := zMst_9 h20 18 48 (by omega)
          have hlt : x < zsd T L x := by
            rw [zsd_b hxL ⟨q1, q2⟩]
            have := (zsd_rg T (show x + 1 ≤ L by omega)).1
            omega
          have N : ∀ m y : Nat, y + m = L → x ≤ y → zsd T L y = zsd T L x → (∀ k, k < y - x → 48 ≤ T (x + k) ∧ T (x + k) ≤ 57) → ∀ μ2, zMst μ0 T L y R μ2 → μ2 9 0 17 = (x : Int) → μ2 9 0 18 = 48 → μ2 9 0 19 = ((y - x : Nat) : Int) → (y ≤ x + 3 → μ2 9 0 20 = zvv T x (y - x)) → zJ (d + 1) m_X12_step 93 [some (zR 9 0)] μ2 (zQ0 K) := by
            intro m
            induction m with
            | zero =>
              intro y hy hxy hzy hf μ2 h2 c17 c18 c19 c20
              have hyL : y = L := by omega
              rw [zsd_n (a := y) (by omega) (fun q => absurd q (by omega))] at hzy
              have e0 : zlt T L y = -1 := by unfold zlt; rw [if_neg (by omega)]
              refine k_X12_step_93 d μ2 K (m_here d hL h2 _ ?_)
              rw [e0]
              refine s_in _ _ _ _ _ _ (fun q _ => absurd q (by omega)) (fun _ => ⟨fun _ => ?_, fun z => absurd rfl z⟩)
              refine hK y μ2 h2 ⟨by rw [← hz]; exact c17, Or.inr ?_⟩
              rw [← hz, ← hzy]
              exact ⟨by omega, c18, c19, c20, rfl⟩
            | succ m ihy =>
              intro y hy hxy hzy hf μ2 h2 c17 c18 c19 c20
              have hyL : y < L := by omega
              have ey : zlt T L y = T y := by unfold zlt; rw [if_pos hyL]
              have hTy := hT y hyL
              refine k_X12_step_93 d μ2 K (m_here d hL h2 _ ?_)
              rw [ey]
              refine s_in _ _ _ _ _ _ (fun g1 g2 => ⟨fun z => absurd z (by decide), fun _ => ?_⟩) (fun g => ⟨fun _ => ?_, fun z => absurd rfl z⟩)
              · have hf2 : ∀ k, k < y + 1 - x → 48 ≤ T (x + k) ∧ T (x + k) ≤ 57 := fun k hk => by
                  by_cases e : k = y - x
                  · subst e; rw [show x + (y - x) = y by omega]; exact ⟨g1, g2⟩
                  · exact hf k (by omega)
                have nx : ∀ v : Int, (y + 1 ≤ x + 3 → v = zvv T x (y + 1 - x)) → zJ (d + 1) m_X12_step 93 [some (zR 9 0)] (zset (zset (zset μ2 9 0 20 v) 9 0 19 (((y - x : Nat) : Int) + 1)) 9 0 16 ((y : Int) + 1)) (zQ0 K) := by
                  intro v hv
                  have h3 := zMst_at (zMst_9 (zMst_9 h2 20 v (by omega)) 19 (((y - x : Nat) : Int) + 1) (by omega)) (y + 1) (by omega)
                  rw [show ((y + 1 : Nat) : Int) = (y : Int) + 1 by omega] at h3
                  refine ihy (y + 1) (by omega) (by omega) (by rw [← zsd_b hyL ⟨g1, g2⟩]; exact hzy) hf2 _ h3 ?_ ?_ ?_ ?_
                  · rw [zo (by omega), zo (by omega), zo (by omega)]; exact c17
                  · rw [zo (by omega), zo (by omega), zo (by omega)]; exact c18
                  · rw [zo (by omega), zset_self]; omega
                  · intro q3
                    rw [zo (by omega), zo (by omega), zset_self]
                    exact hv q3
                refine ⟨fun g3 => ?_, fun g3 => ?_⟩
                · have n1 := nx (μ2 9 0 20) (fun q3 => by rw [c19] at g3; omega)
                  rw [zo (μ := μ2) (k := 20) (k' := 19) (by omega), c19, z_fix (show (-2147483648 : Int) ≤ ((y - x : Nat) : Int) + 1 by omega) (by omega), zo (k' := 16) (by omega), zo (k' := 16) (by omega), h2.1.2.1, z_fix (show (-2147483648 : Int) ≤ (y : Int) + 1 by omega) (by omega)]
                  exact n1
                · rw [c19] at g3
                  have c20' := c20 (by omega)
                  have hr := zvv_rg (T := T) (b := x) (y - x) (by omega) hf
                  have hr2 := zvv_s T x (y - x)
                  rw [show x + (y - x) = y by omega, show y - x + 1 = y + 1 - x by omega] at hr2
                  refine m_here d hL h2 _ ?_
                  rw [ey, c20', z_fix (show (-2147483648 : Int) ≤ 10 * zvv T x (y - x) by omega) (by omega), z_fix (show (-2147483648 : Int) ≤ 10 * zvv T x (y - x) + T y by omega) (by omega), z_fix (show (-2147483648 : Int) ≤ 10 * zvv T x (y - x) + T y - 48 by omega) (by omega)]
                  have n1 := nx (10 * zvv T x (y - x) + T y - 48) (fun _ => by omega)
                  rw [zo (μ := μ2) (k := 20) (k' := 19) (by omega), c19, z_fix (show (-2147483648 : Int) ≤ ((y - x : Nat) : Int) + 1 by omega) (by omega), zo (k' := 16) (by omega), zo (k' := 16) (by omega), h2.1.2.1, z_fix (show (-2147483648 : Int) ≤ (y : Int) + 1 by omega) (by omega)]
                  exact n1
              · rw [zsd_n (a := y) (by omega) (fun _ => g)] at hzy
                refine hK y μ2 h2 ⟨by rw [← hz]; exact c17, Or.inr ?_⟩
                rw [← hz, ← hzy]
                exact ⟨by omega, c18, c19, c20, rfl⟩
          refine N (L - x) x (by omega) (Nat.le_refl _) rfl (fun k hk => absurd hk (by omega)) _ h18 ?_ (zset_self _ _ _ _ _) ?_ (fun _ => ?_)
          · rw [zo (by omega)]; exact b17
          · rw [zo (by omega), b19, Nat.sub_self]; rfl
          · rw [zo (by omega), b20, Nat.sub_self]; rfl
        · rw [h20.1.2.1, z_fix (show (-2147483648 : Int) ≤ (x : Int) + 1 by omega) (by omega), show (x : Int) + 1 = ((x + 1 : Nat) : Int) by omega]
          refine hK (x + 1) _ (zMst_at h20 (x + 1) (by omega)) ⟨?_, Or.inl ⟨?_, ?_, ?_, ?_⟩⟩
          · rw [zo (by omega), b17, ← hz]
          · rw [← hz]; exact zsd_n (by omega) (fun _ => q1)
          · rw [zo (by omega), b18, ← hz, ex]
          · rw [← hz, ex]; exact q1
          · rw [← hz, ex, if_pos (by omega)]
      · rw [ex] at q
        have q32 : T x = 32 := Classical.byContradiction q
        rw [h'.1.2.1, z_fix (by omega) (by omega), show (x : Int) + 1 = ((x + 1 : Nat) : Int) by omega]
        exact ih (x + 1) (by omega) (by rw [← zsb_b hxL q32]; exact hz) _ (zMst_at h' (x + 1) (by omega))
  exact M (L - a) a (by omega) rfl μ h
/-- the model's fault -/
def zMf (μ0 : zM) (f b : Nat) (μ : zM) : Prop := μ 9 0 21 = (f : Int) ∧ μ 9 0 17 = (b : Int) ∧ zfm0 μ0 μ
theorem m_fails (d f b : Nat) {μ0 μ : zM} (h1 : μ 9 0 17 = (b : Int)) (h2 : zfm0 μ0 μ) (K : Int → zM → Prop) (hK : ∀ μ', zMf μ0 f b μ' → K 0 μ') : zC1 d m_X12_fails [zR 9 0, zI (f : Int)] μ K :=
  k_X12_fails d f μ K ⟨Or.inl rfl, hK _ ⟨zset_self _ _ _ _ _, by rw [zo (by omega)]; exact h1, zfm0_9 h2 21 _ (by omega)⟩⟩
theorem m_number (d k : Nat) (most : Int) (hk : k < 200) {μ0 μ : zM} {T : Nat → Int} {L a : Nat} {R : Nat → Int} (hL : L ≤ 240) (hT : ∀ k, k < L → 0 ≤ T k ∧ T k ≤ 255) (h : zMst μ0 T L a R μ) (K : Int → zM → Prop) (h1 : ∀ v e μ1, zNum T L a most = .inr (v, e) → zMst μ0 T L e R μ1 → μ1 9 0 17 = ((zsb T L a : Nat) : Int) → μ1 9 0 20 = v → K 1 (zset μ1 33 1 k v)) (h2 : ∀ f b μ', zNum T L a most = .inl (f, b) → zMf μ0 f b μ' → K 0 μ') : zC1 (d + 2) m_X12_number [zR 9 0, zI (k : Int), zI 0, zI most] μ K := by
  refine k_X12_number (d + 1) k 0 most μ K (m_step d hL hT h _ (fun e μ1 h' hs => ?_))
  have hb := zsb_rg T h.1.2.2
  have hdd := zsd_rg T hb.2
  obtain ⟨s17, ⟨sa, s18, s9, se⟩ | ⟨sa, s18, s19, s20, se⟩⟩ := hs
  · have n48 : ¬ (μ1 9 0 18 = 48) := by rw [s18]; omega
    refine ⟨fun q => absurd q n48, fun _ => m_fails _ 1 (zsb T L a) s17 h'.2.2.2 _ (fun μ' hf => ⟨Or.inl rfl, h2 1 _ μ' ?_ hf⟩)⟩
    unfold zNum
    rw [if_pos sa]
  · refine ⟨fun _ => ⟨fun q => m_fails _ 2 (zsb T L a) s17 h'.2.2.2 _ (fun μ' hf => ⟨Or.inl rfl, h2 2 _ μ' ?_ hf⟩), fun q => ?_⟩, fun q => absurd s18 q⟩
    · rw [s19] at q
      unfold zNum
      rw [if_neg (by omega), if_pos (Or.inl (by omega))]
    · rw [s19] at q
      have e20 := s20 (by omega)
      rw [e20]
      have pos : 0 ≤ zvv T (zsb T L a) (zsd T L (zsb T L a) - zsb T L a) := by
        by_cases qm : zvv T (zsb T L a) (zsd T L (zsb T L a) - zsb T L a) ≤ 999
        · have hn := zNum_v (T := T) (most := 999) h.1.2.2 (v := zvv T (zsb T L a) (zsd T L (zsb T L a) - zsb T L a)) (e := zsd T L (zsb T L a)) (by
            unfold zNum
            rw [if_neg (by omega), if_neg (by omega)])
          exact hn.1
        · omega
      refine s_in _ _ _ _ _ _ (fun _ q2 => ⟨fun _ => ⟨⟨by omega, by omega⟩, Or.inr rfl, ?_⟩, fun z => absurd (show (1 : Int) ≠ 0 by decide) z⟩) (fun q2 => ⟨fun z => absurd rfl z, fun _ => m_fails _ 2 (zsb T L a) s17 h'.2.2.2 _ (fun μ' hf => ⟨Or.inl rfl, h2 2 _ μ' ?_ hf⟩)⟩)
      · rw [Int.toNat_natCast, e20]
        rw [se] at h'
        refine h1 _ (zsd T L (zsb T L a)) μ1 ?_ h' s17 e20
        unfold zNum
        rw [if_neg (by omega), if_neg (by omega)]
      · unfold zNum
        rw [if_neg (by omega), if_pos (Or.inr (by omega))]
theorem m_ends (d : Nat) {μ0 μ : zM} {T : Nat → Int} {L a : Nat} {R : Nat → Int} (hL : L ≤ 240) (hT : ∀ k, k < L → 0 ≤ T k ∧ T k ≤ 255) (h : zMst μ0 T L a R μ) (K : Int → zM → Prop) (h1 : ∀ e μ', zPun T L a 59 = .inr e → zMst μ0 T L e R μ' → K 1 μ') (h2 : ∀ f b μ', zPun T L a 59 = .inl (f, b) → zMf μ0 f b μ' → K 0 μ') : zC1 (d + 2) m_X12_ends [zR 9 0] μ K := by
  refine k_X12_ends (d + 1) μ K (m_step d hL hT h _ (fun e μ1 h' hs => ?_))
  unfold zPun at h1 h2
  obtain ⟨s17, ⟨sa, s18, s9, se⟩ | ⟨sa, s18, s19, s20, se⟩⟩ := hs
  · rw [s18]
    refine ⟨fun q => ⟨Or.inr rfl, ?_⟩, fun q => m_fails _ 1 (zsb T L a) s17 h'.2.2.2 _ (fun μ' hf => ⟨fun _ => ⟨Or.inl rfl, ?_⟩, fun z => absurd rfl z⟩)⟩
    · rw [if_pos q] at h1
      rw [se, if_pos (by omega)] at h'
      exact h1 _ μ1 rfl h'
    · rw [if_neg q] at h2
      exact h2 1 _ μ' rfl hf
  · rw [s18]
    refine ⟨fun q => absurd q (by decide), fun q => m_fails _ 1 (zsb T L a) s17 h'.2.2.2 _ (fun μ' hf => ⟨fun _ => ⟨Or.inl rfl, ?_⟩, fun z => absurd rfl z⟩)⟩
    have n59 : zlt T L (zsb T L a) ≠ 59 := by
      intro z
      have hb := zsb_rg T h.1.2.2
      have hx := zlt_lt z (by decide)
      have e2 : zlt T L (zsb T L a) = T (zsb T L a) := by unfold zlt; rw [if_pos hx]
      rw [zsd_n hb.2 (fun _ => by omega)] at sa
      omega
    rw [if_neg n59] at h2
    exact h2 1 _ μ' rfl hf
