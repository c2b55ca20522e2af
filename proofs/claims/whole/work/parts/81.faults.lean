/-! THE TEXT: the class goes on behind a fault, and nothing counts any more -/
def zfd0 (μ0 μ : zM) : Prop := (∀ t i k, t ≠ 2 → ¬ ((t = 3 ∨ (10 ≤ t ∧ t ≤ 14)) ∧ i = 1) → μ t i k = μ0 t i k) ∧ ∀ k, k < 6 → μ 10 1 k ≤ 12
def zBd (μ0 : zM) (L f p : Nat) (μ : zM) : Prop := μ 2 0 2 = (L : Int) ∧ (∃ a : Nat, μ 2 0 3 = (a : Int) ∧ a ≤ L) ∧ (μ 2 0 5 = (f : Int) ∧ f ≠ 0) ∧ μ 2 0 6 = (p : Int) ∧ zfd0 μ0 μ
theorem zfd0_same {μ0 μ μ' : zM} (h : zfd0 μ0 μ) (s : zsame μ μ') : zfd0 μ0 μ' := ⟨fun t i k q1 q2 => by rw [s t i k (by omega)]; exact h.1 t i k q1 q2, fun k hk => by rw [s _ _ _ (by omega)]; exact h.2 k hk⟩
theorem zfd0_put {μ0 μ : zM} (h : zfd0 μ0 μ) (t k : Nat) (v : Int) (ht : t = 3 ∨ (10 ≤ t ∧ t ≤ 14)) (hv : t = 10 → v ≤ 12) : zfd0 μ0 (zset μ t 1 k v) := by
  refine ⟨fun t' i' k' q1 q2 => by rw [zo (by omega)]; exact h.1 t' i' k' q1 q2, fun j hj => ?_⟩
  by_cases q : t = 10 ∧ j = k
  · obtain ⟨rfl, rfl⟩ := q
    rw [zset_self]; exact hv rfl
  · rw [zo (by omega)]; exact h.2 j hj
theorem zfd0_2 {μ0 μ : zM} (h : zfd0 μ0 μ) (k : Nat) (v : Int) : zfd0 μ0 (zset μ 2 0 k v) := ⟨fun t' i' k' q1 q2 => by rw [zo (by omega)]; exact h.1 t' i' k' q1 q2, fun j hj => by rw [zo (by omega)]; exact h.2 j hj⟩
theorem zBd_same {μ0 μ μ' : zM} {L f p : Nat} (h : zBd μ0 L f p μ) (s : zsame μ μ') (e : ∃ a : Nat, μ' 2 0 3 = (a : Int) ∧ a ≤ L) : zBd μ0 L f p μ' := by
  obtain ⟨h1, h2, h3, h4, h5⟩ := h
  exact ⟨by rw [s _ _ _ (by omega)]; exact h1, e, by rw [s _ _ _ (by omega)]; exact h3, by rw [s _ _ _ (by omega)]; exact h4, zfd0_same h5 s⟩
theorem zBd_fail {μ0 μ μ' : zM} {L f p f' p' : Nat} (h : zBd μ0 L f p μ) (q : zfail μ f' p' μ') : zBd μ0 L f p μ' := by
  rw [q.2 (by rw [h.2.2.1.1]; have := h.2.2.1.2; omega)]; exact h
theorem zBd_put {μ0 μ : zM} {L f p : Nat} (h : zBd μ0 L f p μ) (t k : Nat) (v : Int) (ht : t = 3 ∨ (10 ≤ t ∧ t ≤ 14)) (hv : t = 10 → v ≤ 12) : zBd μ0 L f p (zset μ t 1 k v) := by
  obtain ⟨h1, ⟨a, h2, h2'⟩, h3, h4, h5⟩ := h
  exact ⟨by rw [zo (by omega)]; exact h1, ⟨a, by rw [zo (by omega)]; exact h2, h2'⟩, by rw [zo (by omega)]; exact h3, by rw [zo (by omega)]; exact h4, zfd0_put h5 t k v ht hv⟩
theorem zBd_at {μ0 μ : zM} {L f p : Nat} (h : zBd μ0 L f p μ) (a : Nat) (ha : a ≤ L) : zBd μ0 L f p (zset μ 2 0 3 (a : Int)) := by
  obtain ⟨h1, h2, h3, h4, h5⟩ := h
  exact ⟨by rw [zo (by omega)]; exact h1, ⟨a, zset_self _ _ _ _ _, ha⟩, by rw [zo (by omega)]; exact h3, by rw [zo (by omega)]; exact h4, zfd0_2 h5 _ _⟩
theorem zNum_f {T : Nat → Int} {L a : Nat} {most : Int} {f b : Nat} (h : zNum T L a most = .inl (f, b)) : f ≠ 0 ∧ b = zsb T L a := by
  unfold zNum at h
  split at h
  · cases h; exact ⟨by decide, rfl⟩
  · split at h
    · cases h; exact ⟨by decide, rfl⟩
    · cases h
theorem zNum_v {T : Nat → Int} {L a : Nat} {most v : Int} {e : Nat} (ha : a ≤ L) (h : zNum T L a most = .inr (v, e)) : 0 ≤ v ∧ v ≤ most ∧ v ≤ 999 ∧ a < e ∧ e ≤ L := by
  have hb := zsb_rg T ha
  have hd := zsd_rg T hb.2
  have fig : ∀ m x, x + m = L → ∀ k, x + k < zsd T L x → 48 ≤ T (x + k) ∧ T (x + k) ≤ 57 := by
    intro m
    induction m with
    | zero =>
      intro x hx k hk
      rw [zsd_n (by omega) (fun q => absurd q (by omega))] at hk
      omega
    | succ m ih =>
      intro x hx k hk
      by_cases q : 48 ≤ T x ∧ T x ≤ 57
      · cases k with
        | zero => exact q
        | succ k =>
          rw [zsd_b (by omega) q] at hk
          have := ih (x + 1) (by omega) k (by omega)
          rw [show x + 1 + k = x + (k + 1) by omega] at this
          exact this
      · rw [zsd_n (by omega) (fun _ => q)] at hk
        omega
  unfold zNum at h
  split at h
  · cases h
  · split at h
    · cases h
    · next h1 h2 =>
      cases h
      have hv := zvv_rg (T := T) (b := zsb T L a) (zsd T L (zsb T L a) - zsb T L a) (by omega) (fun k hk => fig (L - zsb T L a) _ (by omega) k (by omega))
      omega
theorem zPun_f {T : Nat → Int} {L a : Nat} {sg : Int} {f b : Nat} (h : zPun T L a sg = .inl (f, b)) : f = 1 ∧ b = zsb T L a ∧ zlt T L (zsb T L a) ≠ sg := by
  unfold zPun at h
  split at h
  · cases h
  · next q => cases h; exact ⟨rfl, rfl, q⟩
theorem zlt_lt {T : Nat → Int} {L a : Nat} {c : Int} (h : zlt T L a = c) (hc : c ≠ -1) : a < L := by
  unfold zlt at h
  split at h
  · assumption
  · omega
theorem zPun_r {T : Nat → Int} {L a : Nat} {sg : Int} {b : Nat} (hs : sg ≠ -1) (h : zPun T L a sg = .inr b) : b = zsb T L a + 1 ∧ b ≤ L ∧ zlt T L (zsb T L a) = sg := by
  unfold zPun at h
  split at h
  · next q =>
    cases h
    exact ⟨rfl, zlt_lt q hs, q⟩
  · cases h
theorem b_number (d : Nat) (most : Int) {μ0 μ : zM} {L f p : Nat} (hL : L ≤ 240) (h : zBd μ0 L f p μ) (K : Int → zM → Prop) (hK : ∀ v μ', zBd μ0 L f p μ' → K v μ') : zC1 (d + 2) m_X7_readNumber [zR 2 0, zI most] μ K := by
  obtain ⟨a, e1, ha⟩ := h.2.1
  refine e_number d a L most hL ha μ e1 h.1 K (fun v e μ' _ hs h3 _ he => hK v μ' (zBd_same h hs ⟨e, h3, he⟩)) (fun f' b v μ1 μ' _ hs he hf => hK v μ' (zBd_fail (zBd_same h hs he) hf))
theorem b_expect (d : Nat) (sg : Int) (hsg : sg ≠ -1) {μ0 μ : zM} {L f p : Nat} (hL : L ≤ 240) (h : zBd μ0 L f p μ) (K : zM → Prop) (hK : ∀ μ', zBd μ0 L f p μ' → K μ') : zC0 (d + 2) m_X7_expect [zR 2 0, zI sg] μ K := by
  obtain ⟨a, e1, ha⟩ := h.2.1
  refine e_expect d a L sg hL ha μ e1 h.1 K (fun b μ' hp hs h3 => hK μ' (zBd_same h hs ⟨b, h3, (zPun_r hsg hp).2.1⟩)) (fun f' b μ1 μ' hp hs h3 hf => hK μ' (zBd_fail (zBd_same h hs ⟨b, h3, ?_⟩) hf))
  rw [(zPun_f hp).2.1]; exact (zsb_rg _ ha).2
theorem b_accept (d : Nat) (sg : Int) (hsg : sg ≠ -1) {μ0 μ : zM} {L f p : Nat} (hL : L ≤ 240) (h : zBd μ0 L f p μ) (K : Int → zM → Prop) (hK : ∀ x μ', x = 0 ∨ x = 1 → zBd μ0 L f p μ' → K x μ') : zC1 (d + 2) m_X7_accept [zR 2 0, zI sg] μ K := by
  obtain ⟨a, e1, ha⟩ := h.2.1
  exact e_accept d a L sg hL ha μ e1 h.1 K (fun μ' hp hs h3 => hK 1 μ' (Or.inr rfl) (zBd_same h hs ⟨_, h3, zlt_lt hp hsg⟩)) (fun μ' hp hs h3 => hK 0 μ' (Or.inl rfl) (zBd_same h hs ⟨_, h3, (zsb_rg _ ha).2⟩))
theorem b_putPaper (d : Nat) (a1 a2 a3 : Int) {μ0 μ : zM} {L f p : Nat} (h : zBd μ0 L f p μ) (K : zM → Prop) (hK : ∀ μ', zBd μ0 L f p μ' → K μ') : zC0 (d + 1) m_X1_putPaper [zR 3 1, zI a1, zI a2, zI a3] μ K :=
  k_X1_putPaper d 1 a1 a2 a3 μ K (sg_put_11 d 1 _ _ μ _ ⟨fun n _ _ => hK _ (zBd_put h 11 n _ (by omega) (by omega)), fun _ => hK _ h⟩)
theorem b_putUnder (d : Nat) (a1 a2 a3 : Int) {μ0 μ : zM} {L f p : Nat} (h : zBd μ0 L f p μ) (K : zM → Prop) (hK : ∀ μ', zBd μ0 L f p μ' → K μ') : zC0 (d + 1) m_X1_putUnder [zR 3 1, zI a1, zI a2, zI a3] μ K :=
  k_X1_putUnder d 1 a1 a2 a3 μ K (sg_put_12 d 1 _ _ μ _ ⟨fun n _ _ => hK _ (zBd_put h 12 n _ (by omega) (by omega)), fun _ => hK _ h⟩)
theorem b_putPerson (d : Nat) (a1 a2 : Int) {μ0 μ : zM} {L f p : Nat} (h : zBd μ0 L f p μ) (K : zM → Prop) (hK : ∀ μ', zBd μ0 L f p μ' → K μ') : zC0 (d + 1) m_X1_putPerson [zR 3 1, zI a1, zI a2] μ K :=
  k_X1_putPerson d 1 a1 a2 μ K (sg_put_13 d 1 _ _ μ _ ⟨fun n _ _ => hK _ (zBd_put h 13 n _ (by omega) (by omega)), fun _ => hK _ h⟩)
theorem b_putWall (d : Nat) (a1 a2 : Int) {μ0 μ : zM} {L f p : Nat} (h : zBd μ0 L f p μ) (K : zM → Prop) (hK : ∀ μ', zBd μ0 L f p μ' → K μ') : zC0 (d + 1) m_X1_putWall [zR 3 1, zI a1, zI a2] μ K :=
  k_X1_putWall d 1 a1 a2 μ K (sg_put_14 d 1 _ _ μ _ ⟨fun n _ _ => hK _ (zBd_put h 14 n _ (by omega) (by omega)), fun _ => hK _ h⟩)
theorem b_addRoom (d : Nat) (a1 : Int) (h12 : a1 ≤ 12) {μ0 μ : zM} {L f p : Nat} (h : zBd μ0 L f p μ) (K : zM → Prop) (hK : ∀ μ', zBd μ0 L f p μ' → K μ') : zC0 (d + 1) m_X1_addRoom [zR 3 1, zI a1] μ K :=
  k_X1_addRoom d 1 a1 μ K (sg_put_10 d 1 _ _ μ _ ⟨fun n _ _ => hK _ (zBd_put (zBd_put h 10 n _ (by omega) (fun _ => h12)) 3 2 _ (by omega) (by omega)), fun _ => hK _ (zBd_put h 3 2 _ (by omega) (by omega))⟩)
theorem b_barsOf (d : Nat) (a1 : Int) {μ0 μ : zM} {L f p : Nat} (h : zBd μ0 L f p μ) (K : Int → zM → Prop) (hK : ∀ v, v ≤ 12 → K v μ) : zC1 (d + 1) m_X1_barsOf [zR 3 1, zI a1] μ K :=
  k_X1_barsOf d 1 a1 μ K (sg_at_10 d 1 a1 μ _ ⟨fun n hn _ => hK _ (h.2.2.2.2.2 n hn), fun _ => hK _ (by omega)⟩)
/-- the state in which no fault is noted yet -/
def zGst (μ0 : zM) (L a : Nat) (μ : zM) : Prop := μ 2 0 2 = (L : Int) ∧ μ 2 0 3 = (a : Int) ∧ a ≤ L ∧ μ 2 0 5 = 0 ∧ μ 2 0 6 = -1 ∧ zfd0 μ0 μ
theorem zGs_T {μ0 μ : zM} {L a : Nat} (h : zGst μ0 L a μ) : μ 20 0 = μ0 20 0 := funext fun k => h.2.2.2.2.2.1 _ _ _ (by omega) (by omega)
theorem zGs_same {μ0 μ μ' : zM} {L a e : Nat} (h : zGst μ0 L a μ) (s : zsame μ μ') (h3 : μ' 2 0 3 = (e : Int)) (he : e ≤ L) : zGst μ0 L e μ' := by
  obtain ⟨h1, -, -, h4, h5, h6⟩ := h
  exact ⟨by rw [s _ _ _ (by omega)]; exact h1, h3, he, by rw [s _ _ _ (by omega)]; exact h4, by rw [s _ _ _ (by omega)]; exact h5, zfd0_same h6 s⟩
theorem zGs_put {μ0 μ : zM} {L a : Nat} (h : zGst μ0 L a μ) (t k : Nat) (v : Int) (ht : t = 3 ∨ (10 ≤ t ∧ t ≤ 14)) (hv : t = 10 → v ≤ 12) : zGst μ0 L a (zset μ t 1 k v) := by
  obtain ⟨h1, h2, h3, h4, h5, h6⟩ := h
  exact ⟨by rw [zo (by omega)]; exact h1, by rw [zo (by omega)]; exact h2, h3, by rw [zo (by omega)]; exact h4, by rw [zo (by omega)]; exact h5, zfd0_put h6 t k v ht hv⟩
theorem zGs_at {μ0 μ : zM} {L a : Nat} (h : zGst μ0 L a μ) (e : Nat) (he : e ≤ L) : zGst μ0 L e (zset μ 2 0 3 (e : Int)) := zGs_same h (zsame_3 (zsame_r μ) _) (zset_self _ _ _ _ _) he
theorem zGs_bad {μ0 μ μ1 μ' : zM} {L a e f b : Nat} (h : zGst μ0 L a μ) (s : zsame μ μ1) (h3 : μ1 2 0 3 = (e : Int)) (he : e ≤ L) (hf : f ≠ 0) (q : zfail μ1 f b μ') : zBd μ0 L f b μ' := by
  have g := zGs_same h s h3 he
  rw [q.1 g.2.2.2.1]
  obtain ⟨h1, h2, h3, h4, h5, h6⟩ := g
  exact ⟨by rw [zo (by omega), zo (by omega)]; exact h1, ⟨e, by rw [zo (by omega), zo (by omega)]; exact h2, h3⟩, ⟨by rw [zo (by omega), zset_self], hf⟩, zset_self _ _ _ _ _, zfd0_2 (zfd0_2 h6 _ _) _ _⟩
theorem g_number (d a L : Nat) (most : Int) (hL : L ≤ 240) {μ0 μ : zM} (h : zGst μ0 L a μ) (K : Int → zM → Prop) (h1 : ∀ v e μ', zNum (μ0 20 0) L a most = .inr (v, e) → zGst μ0 L e μ' → zsame μ μ' → μ' 2 0 4 = ((zsb (μ0 20 0) L a : Nat) : Int) → K v μ') (h2 : ∀ f b v μ', zNum (μ0 20 0) L a most = .inl (f, b) → zBd μ0 L f b μ' → K v μ') : zC1 (d + 2) m_X7_readNumber [zR 2 0, zI most] μ K := by
  refine e_number d a L most hL h.2.2.1 μ h.2.1 h.1 K ?_ ?_
  · rw [zGs_T h]
    exact fun v e μ' hz hs g3 g4 he => h1 v e μ' hz (zGs_same h hs g3 he) hs g4
  · rw [zGs_T h]
    exact fun f b v μ1 μ' hz hs ⟨e, g3, he⟩ hf => h2 f b v μ' hz (zGs_bad h hs g3 he (zNum_f hz).1 hf)
theorem g_expect (d a L : Nat) (sg : Int) (hsg : sg ≠ -1) (hL : L ≤ 240) {μ0 μ : zM} (h : zGst μ0 L a μ) (K : zM → Prop) (h1 : ∀ e μ', zPun (μ0 20 0) L a sg = .inr e → zGst μ0 L e μ' → zsame μ μ' → K μ') (h2 : ∀ f b μ', zPun (μ0 20 0) L a sg = .inl (f, b) → zBd μ0 L f b μ' → K μ') : zC0 (d + 2) m_X7_expect [zR 2 0, zI sg] μ K := by
  refine e_expect d a L sg hL h.2.2.1 μ h.2.1 h.1 K ?_ ?_
  · rw [zGs_T h]
    exact fun e μ' hz hs g3 => h1 e μ' hz (zGs_same h hs g3 (zPun_r hsg hz).2.1) hs
  · rw [zGs_T h]
    refine fun f b μ1 μ' hz hs g3 hf => h2 f b μ' hz (zGs_bad h hs g3 ?_ ?_ hf)
    · rw [(zPun_f hz).2.1]; exact (zsb_rg _ h.2.2.1).2
    · rw [(zPun_f hz).1]; decide
theorem g_fail (d a L f : Nat) (hf0 : f ≠ 0) (b : Int) (p : Nat) (hb : b = (p : Int)) {μ0 μ : zM} (h : zGst μ0 L a μ) (K : zM → Prop) (hK : ∀ μ', zBd μ0 L f p μ' → μ' 2 0 3 = (a : Int) → K μ') : zC0 d m_X7_fail [zR 2 0, zI (f : Int), zI b] μ K := by
  subst hb
  refine e_fail d f p μ K (fun μ' hf => hK μ' (zGs_bad h (zsame_r μ) h.2.1 h.2.2.1 hf0 hf) ?_)
  rw [hf.1 h.2.2.2.1, zo (by omega), zo (by omega)]
  exact h.2.1
theorem b_fail (d : Nat) (f' : Nat) (b : Int) {μ0 μ : zM} {L f p : Nat} (h : zBd μ0 L f p μ) (K : zM → Prop) (hK : ∀ μ', zBd μ0 L f p μ' → K μ') : zC0 d m_X7_fail [zR 2 0, zI (f' : Int), zI b] μ K :=
  k_X7_fail d f' b μ K ⟨fun q => absurd q (by rw [h.2.2.1.1]; have := h.2.2.1.2; omega), fun _ => hK μ h⟩
