/-! SHORTEST, both sides -/
def zmj (J : Nat → Int) : Nat → List Nat → Int
  | _, [] => 0
  | a, s :: t => J (6 * a + s) + zmj J s t
def zmf (all : Int) (J : Nat → Int) : List Nat → Int
  | [] => all
  | s :: t => all - zmj J s t
theorem zdrop {p : List Nat} {k : Nat} (h : k < p.length) : p.drop k = p.getD k 0 :: p.drop (k + 1) := by
  rw [List.drop_eq_getElem_cons h, List.getD_eq_getElem?_getD, List.getElem?_eq_getElem h]
  rfl
theorem zfin_s {n m : Nat} {p : List Nat} (h : zfin n (m + 1) p = true) : (∀ x, x ∈ p → x < n) ∧ ∀ q, znx n p = some q → zfin n m q = true := by
  unfold zfin at h
  rw [Bool.and_eq_true] at h
  obtain ⟨h1, h2⟩ := h
  refine ⟨fun x hx => of_decide_eq_true (List.all_eq_true.mp h1 x hx), fun q hq => ?_⟩
  rw [hq] at h2
  exact h2
/-- from an order on: to the end -/
theorem s_orders (n all : Nat) (hn1 : 1 ≤ n) (hn : n ≤ 6) (hall : all ≤ 72) (a1 : Int) (μ : zM) (J : Nat → Int) (hJ : ∀ k, k < 36 → μ 43 0 k = J k) (hJ2 : ∀ r s, r < n → s < n → 0 ≤ J (6 * r + s) ∧ J (6 * r + s) ≤ 12) (r : Int × Int) (K : Int → zM → Prop) (hK : ∀ μ', (∀ t i k, t ≠ 42 → μ' t i k = μ t i k) → K (if a1 ≠ 0 then r.1 else r.2) μ') : ∀ (m : Nat) (p : List Nat) (x : Int × Int) (μ' : zM), zorP μ' p n → (∀ t i k, t ≠ 42 → μ' t i k = μ t i k) → zfin n m p = true → zfd (zmf all J) (zfgr 0) (zit n m p) x = r → zJ 8 m_X12_shortest 122 [some (zR 9 0), some (zI a1), some (zI (n : Int)), some (zI (all : Int)), some (zI x.2), some (zI x.1), some (zI 1), none, none, none] μ' (zQ1 K) := by
  intro m
  induction m with
  | zero => intro p x μ' _ _ hz; cases hz
  | succ m ih =>
    intro p x μ' ho hf hz hr
    obtain ⟨z1, z2⟩ := zfin_s hz
    have hlt : ∀ k, k < n → p.getD k 0 < n := fun k hk => z1 _ (by
      rw [List.getD_eq_getElem?_getD, List.getElem?_eq_getElem (show k < p.length by rw [ho.1]; exact hk)]
      exact List.getElem_mem _)
    refine k_X12_shortest_122 7 a1 n all x.2 x.1 1 μ' K ⟨fun q => absurd q (by decide), fun _ => ⟨by omega, ?_⟩⟩
    have hl0 := hlt 0 (by omega)
    have o0 := ho.2 0 (by omega)
    have e0 : μ' 42 0 0 = ((p.getD 0 0 : Nat) : Int) := o0
    rw [e0, z_fix (by omega) (by omega)]
    have hd0 : p = p.getD 0 0 :: p.drop 1 := by
      have := zdrop (p := p) (k := 0) (by rw [ho.1]; omega)
      rw [List.drop_zero] at this
      exact this
    -- what comes behind the loop
    have fin : ∀ c g : Int, c = zmf all J p → g = zfgr 0 p → zC1 7 m_X12_lesser [zI c, zI x.2] μ' (fun x1 μ1 => zC1 7 m_X12_nextOrder [zR 9 0, zI (n : Int)] μ1 (fun x2 μ2 => zJ 8 m_X12_shortest 122 [some (zR 9 0), some (zI a1), some (zI (n : Int)), some (zI (all : Int)), some (zI x1), some (zI (if c < x.2 then g else x.1)), some (zI x2), none, none, none] μ2 (zQ1 K))) := by
      intro c g hc hg
      subst hc; subst hg
      refine s_lesser 7 _ _ μ' _ (s_nextOrder 7 n hn1 hn μ' p ho _ (fun q => ?_) (fun q hq μ2 ho2 hf2 => ?_))
      · unfold zit at hr
        rw [q] at hr
        have hr2 : (if zmf all J p < x.2 then (zfgr 0 p, zmf all J p) else x) = r := hr
        refine k_X12_shortest_122 7 a1 n all _ _ 0 μ' K ⟨fun _ => ⟨fun y => ?_, fun y => ?_⟩, fun y => absurd rfl y⟩
        · have h3 := hK μ' hf
          rw [if_pos y, ← hr2] at h3
          by_cases w : zmf all J p < x.2
          · rw [if_pos w] at h3 ⊢; exact h3
          · rw [if_neg w] at h3 ⊢; exact h3
        · have h3 := hK μ' hf
          rw [if_neg y, ← hr2] at h3
          by_cases w : zmf all J p < x.2
          · rw [if_pos w] at h3 ⊢; exact h3
          · rw [if_neg w] at h3 ⊢; exact h3
      · unfold zit at hr
        rw [hq] at hr
        have hr2 : zfd (zmf all J) (zfgr 0) (zit n m q) (if zmf all J p < x.2 then (zfgr 0 p, zmf all J p) else x) = r := hr
        have h4 := ih q _ μ2 ho2 (fun t i k z => (hf2 t i k z).trans (hf t i k z)) (z2 q hq) hr2
        by_cases w : zmf all J p < x.2
        · rw [if_pos w] at h4 ⊢; rw [if_pos w]; exact h4
        · rw [if_neg w] at h4 ⊢; rw [if_neg w]; exact h4
    have L : ∀ m k : Nat, k + m = n → 1 ≤ k → ∀ (c : Int) (g : Nat), c - zmj J (p.getD (k - 1) 0) (p.drop k) = zmf all J p → zfgr (g : Int) (p.drop k) = zfgr 0 p → g < 10 ^ k → c ≤ 72 → -(12 * (k : Int)) ≤ c → zJ 8 m_X12_shortest 143 [some (zR 9 0), some (zI a1), some (zI (n : Int)), some (zI (all : Int)), some (zI x.2), some (zI x.1), none, some (zI c), some (zI (g : Int)), some (zI (k : Int))] μ' (zQ1 K) := by
      intro m
      induction m with
      | zero =>
        intro k hk hk1 c g e1 e2 _ _ _
        rw [List.drop_of_length_le (by rw [ho.1]; omega)] at e1 e2
        have e3 : c = zmf all J p := by
          have e4 : c - 0 = zmf all J p := e1
          omega
        have h5 := fin c g e3 e2
        refine k_X12_shortest_143 7 a1 n all x.2 x.1 c g k μ' K ⟨fun _ => ⟨fun y => ?_, fun y => ?_⟩, fun y => absurd y (by omega)⟩
        · rw [if_neg (by omega)] at h5; exact h5
        · rw [if_pos (by omega)] at h5; exact h5
      | succ m ih2 =>
        intro k hk hk1 c g e1 e2 hg hc1 hc2
        rw [zdrop (show k < p.length by rw [ho.1]; omega)] at e1 e2
        have hk' := hlt k (by omega)
        have hk2 := hlt (k - 1) (by omega)
        have hj := hJ2 _ _ hk2 hk'
        have hp : 10 ^ (k + 1) = 10 ^ k * 10 := Nat.pow_succ _ _
        have hp2 : 10 ^ k ≤ 10 ^ 6 := Nat.pow_le_pow_right (by omega) (by omega)
        have hp3 : (10 : Nat) ^ 6 = 1000000 := rfl
        rw [hp3] at hp2
        refine k_X12_shortest_143 7 a1 n all x.2 x.1 c g k μ' K ⟨fun y => absurd y (by omega), fun _ => ?_⟩
        rw [z_fix (show (-2147483648 : Int) ≤ (k : Int) - 1 by omega) (by omega), show (k : Int) - 1 = ((k - 1 : Nat) : Int) by omega, Int.toNat_natCast, Int.toNat_natCast, ho.2 k (by omega), ho.2 (k - 1) (by omega)]
        generalize hu : p.getD k 0 = u at e1 e2 hk' hj ⊢
        generalize p.getD (k - 1) 0 = w at e1 hk2 hj ⊢
        rw [z_fix (show (-2147483648 : Int) ≤ 6 * (w : Int) by omega) (by omega), z_fix (show (-2147483648 : Int) ≤ 6 * (w : Int) + (u : Int) by omega) (by omega), show 6 * (w : Int) + (u : Int) = ((6 * w + u : Nat) : Int) by omega, Int.toNat_natCast, hf 43 0 (6 * w + u) (by omega), hJ (6 * w + u) (by omega), z_fix (show (-2147483648 : Int) ≤ c - J (6 * w + u) by omega) (by omega), z_fix (show (-2147483648 : Int) ≤ 10 * (g : Int) by omega) (by omega), z_fix (show (-2147483648 : Int) ≤ 10 * (g : Int) + (u : Int) by omega) (by omega), z_fix (show (-2147483648 : Int) ≤ 10 * (g : Int) + (u : Int) + 1 by omega) (by omega), z_fix (show (-2147483648 : Int) ≤ (k : Int) + 1 by omega) (by omega), show 10 * (g : Int) + (u : Int) + 1 = ((10 * g + u + 1 : Nat) : Int) by omega]
        refine ⟨⟨by omega, by omega⟩, ⟨by omega, by omega⟩, ⟨by omega, by omega⟩, ⟨by omega, by omega⟩, ?_⟩
        have e1' : c - (J (6 * w + u) + zmj J u (p.drop (k + 1))) = zmf all J p := e1
        have e2' : zfgr ((g : Int) * 10 + (u : Int) + 1) (p.drop (k + 1)) = zfgr 0 p := e2
        refine ih2 (k + 1) (by omega) (by omega) (c - J (6 * w + u)) (10 * g + u + 1) ?_ ?_ (by omega) (by omega) (by omega)
        · rw [show k + 1 - 1 = k by omega, hu]
          omega
        · rw [show ((10 * g + u + 1 : Nat) : Int) = (g : Int) * 10 + (u : Int) + 1 by omega]
          exact e2'
    rw [show ((p.getD 0 0 : Nat) : Int) + 1 = ((p.getD 0 0 + 1 : Nat) : Int) by omega]
    refine L (n - 1) 1 (by omega) (by omega) (all : Int) (p.getD 0 0 + 1) ?_ ?_ (by omega) (by omega) (by omega)
    · rw [show zmf all J p = zmf all J (p.getD 0 0 :: p.drop 1) from congrArg _ hd0]
      rfl
    · rw [show zfgr 0 p = zfgr 0 (p.getD 0 0 :: p.drop 1) from congrArg _ hd0]
      show zfgr ((p.getD 0 0 + 1 : Nat) : Int) (p.drop 1) = zfgr (0 * 10 + ((p.getD 0 0 : Nat) : Int) + 1) (p.drop 1)
      rw [show ((p.getD 0 0 + 1 : Nat) : Int) = 0 * 10 + ((p.getD 0 0 : Nat) : Int) + 1 by omega]
/-- sums over a set -/
theorem zSm_1 {f g : Nat → Int} {s : Nat} {b : Int} (h1 : f s = g s + b) (h2 : ∀ k, k ≠ s → f k = g k) : ∀ n, zSm f n = zSm g n + (if s < n then b else 0)
  | 0 => by rw [if_neg (by omega)]; rfl
  | n + 1 => by
    have ih := zSm_1 h1 h2 n
    show zSm f n + f n = zSm g n + g n + _
    by_cases q : s = n
    · subst q
      rw [if_neg (by omega)] at ih
      rw [if_pos (by omega)]
      omega
    · have := h2 n (fun e => q e.symm)
      by_cases q2 : s < n
      · rw [if_pos q2] at ih
        rw [if_pos (by omega)]
        omega
      · rw [if_neg q2] at ih
        rw [if_neg (by omega)]
        omega
def zsB (B : Nat → Nat) (n set : Nat) : Int := zSm (fun k => if k < 6 ∧ zbn set k = true then (B k : Int) else 0) n
theorem zsB_rm (B : Nat → Nat) {n set s : Nat} (h64 : set < 64) (hs6 : s < 6) (hs : s < n) (hb : zbn set s = true) : zsB B n set = (B s : Int) + zsB B n (zrmv set s) := by
  have hf := (zrm_le set h64 s hs6).2 hb
  have h := zSm_1 (f := fun k => if k < 6 ∧ zbn set k = true then (B k : Int) else 0) (g := fun k => if k < 6 ∧ zbn (zrmv set s) k = true then (B k : Int) else 0) (s := s) (b := (B s : Int)) (by
    show (if s < 6 ∧ zbn set s = true then (B s : Int) else 0) = (if s < 6 ∧ zbn (zrmv set s) s = true then (B s : Int) else 0) + (B s : Int)
    rw [if_pos ⟨hs6, hb⟩, if_neg (by rw [hf.2.1]; rintro ⟨-, z⟩; cases z)]
    omega) (fun k hk => by
    show (if k < 6 ∧ zbn set k = true then (B k : Int) else 0) = if k < 6 ∧ zbn (zrmv set s) k = true then (B k : Int) else 0
    by_cases q : k < 6
    · rw [zbn_rm set h64 s hs6 k q hk]
    · rw [if_neg (fun z => q z.1), if_neg (fun z => q z.1)]) n
  rw [if_pos hs] at h
  unfold zsB
  omega
theorem zct_mj {n : Nat} {A J : Nat → Int} {B : Nat → Nat} (hn : n ≤ 6) (hAJ : ∀ x t, x < n → t < n → A (x * 6 + t) = (B t : Int) - J (6 * x + t)) : ∀ (m set a : Nat) (p : List Nat), a < n → set < 2 ^ n → zpp set = m → p ∈ zlx n m set → zct A a p = zsB B n set - zmj J a p
  | 0, set, a, p, ha, hs, hm, hp => by
    have h64 := z_p6 hn
    have h0 := (zpp_0 set (by omega)).mp hm
    subst h0
    have e : p = [] := by
      rcases List.mem_cons.mp hp with h | h
      · exact h
      · cases h
    subst e
    have h1 : ∀ m, zSm (fun k => if k < 6 ∧ zbn 0 k = true then (B k : Int) else 0) m = 0 := by
      intro m
      induction m with
      | zero => rfl
      | succ m ih =>
        show zSm _ m + (if m < 6 ∧ zbn 0 m = true then (B m : Int) else 0) = 0
        rw [ih, if_neg (by
          rintro ⟨-, z⟩
          unfold zbn at z
          have z2 := of_decide_eq_true z
          rw [Nat.zero_div] at z2
          omega)]
        rfl
    show (0 : Int) = zsB B n 0 - 0
    unfold zsB
    rw [h1]
    rfl
  | m + 1, set, a, p, ha, hs, hm, hp => by
    have h64 := z_p6 hn
    rw [zlx_s] at hp
    obtain ⟨s, h1, h2, h3⟩ := zlb_mem hp
    obtain ⟨t, h4, rfl⟩ := List.mem_map.mp h3
    obtain ⟨g1, g2⟩ := zrm_le set (by omega) s (by omega)
    obtain ⟨g2, g3, g4⟩ := g2 h2
    have ih := zct_mj hn hAJ m (zrmv set s) s t h1 (by omega) (by omega) h4
    rw [zsB_rm B (by omega) (by omega) h1 h2]
    show A (a * 6 + s) + zct A s t = (B s : Int) + zsB B n (zrmv set s) - (J (6 * a + s) + zmj J s t)
    rw [hAJ a s ha h1, ih]
    omega
theorem zmf_ct {n : Nat} {A J : Nat → Int} {B : Nat → Nat} (hn1 : 1 ≤ n) (hn : n ≤ 6) (hA6 : ∀ t, t < n → A (36 + t) = (B t : Int)) (hAJ : ∀ x t, x < n → t < n → A (x * 6 + t) = (B t : Int) - J (6 * x + t)) (p : List Nat) (hp : p ∈ zlx n n (2 ^ n - 1)) : zmf (zSm (fun k => (B k : Int)) n) J p = 0 + zct A 6 p := by
  have h64 := z_p6 hn
  have h1 : 1 ≤ 2 ^ n := Nat.pos_of_ne_zero (by
    intro z
    have := Nat.pow_eq_zero.mp z
    omega)
  obtain ⟨m, rfl⟩ : ∃ m, n = m + 1 := ⟨n - 1, by omega⟩
  have e : zSm (fun k => (B k : Int)) (m + 1) = zsB B (m + 1) (2 ^ (m + 1) - 1) := by
    unfold zsB
    refine zSm_ext (fun k hk => ?_)
    rw [if_pos ⟨by omega, zbn_all (m + 1) (by omega) k hk⟩]
  have hm := zpp_n (m + 1) (by omega)
  rw [e]
  rw [zlx_s] at hp
  obtain ⟨s, h1, h2, h3⟩ := zlb_mem hp
  obtain ⟨t, h4, rfl⟩ := List.mem_map.mp h3
  obtain ⟨g1, g2⟩ := zrm_le (2 ^ (m + 1) - 1) (by omega) s (by omega)
  obtain ⟨g2, g3, g4⟩ := g2 h2
  have ih := zct_mj hn hAJ m (zrmv (2 ^ (m + 1) - 1) s) s t h1 (by omega) (by omega) h4
  rw [zsB_rm B (by omega) (by omega) h1 h2]
  show (B s : Int) + zsB B (m + 1) (zrmv (2 ^ (m + 1) - 1) s) - zmj J s t = 0 + (A (6 * 6 + s) + zct A s t)
  rw [show 6 * 6 + s = 36 + s by omega, hA6 s h1, ih]
  omega
