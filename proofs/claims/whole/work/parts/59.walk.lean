/-! AN HOUR: how a person goes on, both sides -/
theorem zset_id {μ : zM} {t i k : Nat} {v : Int} (h : μ t i k = v) : zset μ t i k v = μ := by
  funext a b c
  by_cases q : a = t ∧ b = i ∧ c = k
  · obtain ⟨rfl, rfl, rfl⟩ := q
    rw [zset_self, h]
  · rw [zo (by omega)]
theorem zset_tw (μ : zM) (t i k : Nat) (v w : Int) : zset (zset μ t i k v) t i k w = zset μ t i k w := by
  funext a b c
  by_cases q : a = t ∧ b = i ∧ c = k
  · obtain ⟨rfl, rfl, rfl⟩ := q
    rw [zset_self, zset_self]
  · rw [zo (by omega), zo (by omega), zo (by omega)]
def zgo1 (f : Nat → Int) (B : Nat) : Nat → Nat → Nat
  | 0, b => b
  | m + 1, b => if f ((b + 1) % B) = 0 then (b + 1) % B else zgo1 f B m ((b + 1) % B)
theorem zgo1_s (f : Nat → Int) (B m b : Nat) : zgo1 f B (m + 1) b = if f ((b + 1) % B) = 0 then (b + 1) % B else zgo1 f B m ((b + 1) % B) := rfl
theorem zgo1_lt (f : Nat → Int) {B : Nat} : ∀ m b, b < B → zgo1 f B m b < B
  | 0, _, h => h
  | m + 1, b, h => by
    rw [zgo1_s]
    have := Nat.mod_lt (b + 1) (show 0 < B by omega)
    split
    · exact this
    · exact zgo1_lt f m _ this
theorem s_goOn (d j p r b g : Nat) (hp : p < 5) (μ : zM) {n : Nat} {B : Nat → Nat} (hH : zHc μ n B) (hL : zLc μ j) (h1 : μ 16 j p = (r : Int)) (h2 : μ 17 j p = (b : Int)) (h3 : μ 18 j p = (g : Int)) (hr : r < n) (hb : b < B r) (hg : g < 10) (K : zM → Prop) (h : K (zset μ 17 j p ((zgo1 (rC μ j r) (B r) g b : Nat) : Int))) : zC0 (d + 3) m_X5_goOn [zR 4 j, zI (p : Int)] μ K := by
  obtain ⟨e1, e2, e3, -⟩ := hH
  obtain ⟨g1, g2, g3⟩ := e3 r hr
  refine k_X5_goOn (d + 2) j p μ K (s_roomOf (d + 1) j p hp μ _ (s_placeOf (d + 1) j p hp μ _ ?_))
  rw [h1, h2]
  refine s_barsOf (d + 1) 0 r (by omega) μ _ (s_paceOf (d + 1) j p hp μ _ ?_)
  rw [g1, h3]
  have fin : ∀ x : Nat, x = zgo1 (rC μ j r) (B r) g b → zC0 (d + 2) m_X3_setPlace [zR 4 j, zI (p : Int), zI (r : Int), zI (x : Int)] μ (fun μ1 => K μ1) := by
    intro x hx
    subst hx
    refine k_X3_setPlace (d + 1) j p r _ μ _ (s_put_16 (d + 1) j p hp _ μ _ (s_put_17 (d + 1) j p hp _ _ _ ?_))
    rw [zset_id h1]
    exact h
  have L : ∀ m i x : Nat, i + m = g → x < B r → zgo1 (rC μ j r) (B r) m x = zgo1 (rC μ j r) (B r) g b → zJ (d + 3) m_X5_goOn 32 [some (zR 4 j), some (zI (p : Int)), some (zI (r : Int)), some (zI (x : Int)), some (zI (B r : Int)), some (zI (g : Int)), some (zI (i : Int))] μ (zQ0 K) := by
    intro m
    induction m with
    | zero =>
      intro i x hi hx ha
      exact k_X5_goOn_32 (d + 2) j p r x (B r) g i μ K ⟨fun _ => fin x ha, fun q => absurd q (by omega)⟩
    | succ m ih =>
      intro i x hi hx ha
      have hm := Nat.mod_lt (x + 1) (show 0 < B r by omega)
      refine k_X5_goOn_32 (d + 2) j p r x (B r) g i μ K ⟨fun q => absurd q (by omega), fun _ => ?_⟩
      rw [z_fix (show (-2147483648 : Int) ≤ (x : Int) + 1 by omega) (by omega), show (x : Int) + 1 = ((x + 1 : Nat) : Int) by omega]
      refine s_leftOver _ (x + 1) (B r) (by omega) μ _ (s_reads d j r _ (by omega) (by omega) μ hL _ ?_)
      rw [zgo1_s] at ha
      rw [z_fix (by omega) (by omega)]
      refine ⟨fun q => ?_, fun q => ?_⟩
      · rw [if_neg q] at ha
        exact ih (i + 1) _ (by omega) hm ha
      · rw [if_pos (by omega)] at ha
        exact fin _ ha
  exact L g 0 b (by omega) hb rfl
theorem s_walks (d i p r b g : Nat) (hp : p < 5) (μ : zM) {n : Nat} {B : Nat → Nat} (hH : zHm μ n B) (hL : zLm μ i) (h1 : μ 34 i (6 + p) = (r : Int)) (h2 : μ 34 i (11 + p) = (b : Int)) (h3 : μ 34 i (16 + p) = (g : Int)) (hr : r < n) (hb : b < B r) (hg : g < 10) (K : zM → Prop) (h : K (zset μ 34 i (11 + p) ((zgo1 (rM μ i r) (B r) g b : Nat) : Int))) : zC0 (d + 2) m_X12_walks [zR 9 0, zR 34 i, zI (p : Int)] μ K := by
  obtain ⟨e1, e2, e3, -⟩ := hH
  obtain ⟨g1, g2, g3⟩ := e3 r hr
  refine k_X12_walks_t34 (d + 1) i p μ K ?_
  rw [z_i (c := 6) (m := 6 + p) (by omega) (by omega), Int.toNat_natCast, h1]
  refine ⟨⟨by omega, by omega⟩, ?_⟩
  have L : ∀ m k x : Nat, k + m = g → x < B r → zgo1 (rM μ i r) (B r) m x = zgo1 (rM μ i r) (B r) g b → zJ (d + 2) m_X12_walks 10 [some (zR 9 0), some (zR 34 i), some (zI (p : Int)), some (zI (r : Int)), some (zI (k : Int))] (zset μ 34 i (11 + p) (x : Int)) (zQ0 K) := by
    intro m
    induction m with
    | zero =>
      intro k x hk hx ha
      refine k_X12_walks_t34_10 (d + 1) i p r k _ K ?_
      rw [z_i (c := 16) (m := 16 + p) (by omega) (by omega), Int.toNat_natCast, zo (by omega), h3]
      refine ⟨⟨by omega, by omega⟩, fun _ => ?_, fun q => absurd q (by omega)⟩
      rw [← ha] at h
      exact h
    | succ m ih =>
      intro k x hk hx ha
      have hm := Nat.mod_lt (x + 1) (show 0 < B r by omega)
      have eL : rM (zset μ 34 i (11 + p) (((x + 1) % B r : Nat) : Int)) i r = rM μ i r := by
        funext y
        unfold rM
        by_cases q : r < 6 ∧ y < 12
        · rw [if_pos q, if_pos q, zo (by omega), zo (by omega), zo (by omega)]
        · rw [if_neg q, if_neg q]
      have hL2 : zLm (zset μ 34 i (11 + p) (((x + 1) % B r : Nat) : Int)) i := fun y hy => by rw [zo (by omega)]; exact hL y hy
      refine k_X12_walks_t34_10 (d + 1) i p r k _ K ?_
      rw [z_i (c := 16) (m := 16 + p) (by omega) (by omega), z_i (c := 11) (m := 11 + p) (by omega) (by omega), z_i (c := 4) (m := 4 + r) (by omega) (by omega), Int.toNat_natCast, Int.toNat_natCast, Int.toNat_natCast, zset_self, zset_tw, zset_self, show (zset μ 34 i (11 + p) (x : Int)) 34 i (16 + p) = (g : Int) by rw [zo (by omega)]; exact h3, show (zset μ 34 i (11 + p) (x : Int)) 33 0 (4 + r) = (B r : Int) by rw [zo (by omega)]; exact g1, z_fix (show (-2147483648 : Int) ≤ (x : Int) + 1 by omega) (by omega), show Int.tmod ((x : Int) + 1) (B r : Int) = (((x + 1) % B r : Nat) : Int) from rfl]
      refine ⟨⟨by omega, by omega⟩, fun q => absurd q (by omega), fun _ => ⟨⟨by omega, by omega⟩, ⟨by omega, by omega⟩, by omega, ⟨by omega, by omega⟩, ⟨by omega, by omega⟩, s_readsOn d i r _ (by omega) (by omega) _ hL2 _ ?_⟩⟩
      rw [eL]
      rw [zgo1_s] at ha
      rw [z_fix (by omega) (by omega)]
      refine ⟨fun q => ?_, fun q => ?_⟩
      · rw [if_neg q] at ha
        exact ih (k + 1) _ (by omega) hm ha
      · rw [if_pos (by omega)] at ha
        rw [← ha] at h
        exact h
  have h0 := L g 0 b (by omega) hb rfl
  rw [zset_id h2] at h0
  exact h0
