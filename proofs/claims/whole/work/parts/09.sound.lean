/-! SOUNDNESS: what the abstract machine does, the machine does -/
def zvl (ad : Nat → Nat → Nat) : zV → Value
  | .inl a => .int (Int32.ofInt a)
  | .inr (.inl a) => .long (Int64.ofInt a)
  | .inr (.inr q) => .ref (ad q.1 q.2)
def zvk (Γ : zG) : zV → Prop
  | .inl a => zin a
  | .inr (.inl a) => zinL a
  | .inr (.inr q) => q.2 < zcn q.1 ∨ (q.1 = 0 ∧ q.2 = 0 ∧ Γ.isSome = true)
def zsk (t k : Nat) : Nat := match zak t with
  | 0 => zfk t k
  | 1 => 1
  | 2 => 2
  | _ => 0
/-- the memory holds what fits -/
def zmo (μ : zM) : Prop := ∀ t i k, (zsk t k = 1 → zin (μ t i k)) ∧ (zsk t k = 2 → μ t i k = 0 ∨ μ t i k = 1) ∧ (zsk t k = 3 → zinL (μ t i k))
def zsl (ad : Nat → Nat → Nat) (μ : zM) (t i k : Nat) : Value := match zfk t k with
  | 3 => .long (Int64.ofInt (μ t i k))
  | 4 => .ref (ad (zrt t i k).1 (zrt t i k).2)
  | _ => .int (Int32.ofInt (μ t i k))
def zcl (ad : Nat → Nat → Nat) (tyI tyZ tyL : ClassId) (μ : zM) (q : Nat × Nat) : va_E := match zak q.1 with
  | 1 => .inl (tyI, zal q.1, .inl (fun k => Int32.ofInt (μ q.1 q.2 k)))
  | 2 => .inl (tyZ, zal q.1, .inl (fun k => Int32.ofInt (μ q.1 q.2 k)))
  | 3 => .inl (tyL, zal q.1, .inr (.inr (.inr (.inr (fun k => some (ad (zrt q.1 q.2 k).1 (zrt q.1 q.2 k).2))))))
  | _ => .inr (zci q.1, (List.range (zTN q.1)).map (zsl ad μ q.1 q.2))
def zwd (ad : Nat → Nat → Nat) (tyI tyZ tyL : ClassId) (μ : zM) : va_W := zob.map fun q => (ad q.1 q.2, zcl ad tyI tyZ tyL μ q)
abbrev zts (tyI tyZ tyL : ClassId) : List (ClassId × FieldType) := [(tyI, .int), (tyZ, .boolean), (tyL, .object "MusicWalls$Life")]
theorem zmapset {α β : Type} {l : List α} (hn : l.Nodup) {k : Nat} {x : α} (hk : l[k]? = some x) {f g : α → β} (h : ∀ y ∈ l, y ≠ x → g y = f y) : (l.map f).set k (g x) = l.map g := by
  have hlt := (List.getElem?_eq_some_iff.mp hk).1
  apply List.ext_getElem?
  intro j
  rw [List.getElem?_set, List.getElem?_map, List.getElem?_map]
  by_cases hj : k = j
  · subst hj
    rw [if_pos rfl, if_pos (by simpa using hlt), hk]
    rfl
  · rw [if_neg hj]
    cases hl : l[j]? with
    | none => rfl
    | some y =>
      show some (f y) = some (g y)
      rw [h y (List.mem_of_getElem? hl) (fun e => hj ((List.getElem?_inj hlt hn).mp (by rw [hk, hl, e])))]
/-- where an object stands -/
theorem zat_wd {ad : Nat → Nat → Nat} {tyI tyZ tyL : ClassId} {μ : zM} {t i : Nat} (h : i < zcn t) : ∃ k : Nat, zob[k]? = some (t, i) ∧ (zwd ad tyI tyZ tyL μ)[k]? = some (ad t i, zcl ad tyI tyZ tyL μ (t, i)) := by
  obtain ⟨k, hk⟩ := List.getElem?_of_mem (zob_mem h)
  exact ⟨k, hk, by unfold zwd; rw [List.getElem?_map, hk]; rfl⟩
theorem zcl_set {ad : Nat → Nat → Nat} {tyI tyZ tyL : ClassId} {μ : zM} {t i k : Nat} {v : Int} {y : Nat × Nat} (h : y ≠ (t, i)) : zcl ad tyI tyZ tyL (zset μ t i k v) y = zcl ad tyI tyZ tyL μ y := by
  obtain ⟨u, j⟩ := y
  have e : ∀ n, zset μ t i k v u j n = μ u j n := fun n => by
    unfold zset
    rw [if_neg]
    rintro ⟨rfl, rfl, -⟩
    exact h rfl
  have e2 : zsl ad (zset μ t i k v) u j = zsl ad μ u j := by
    funext n
    unfold zsl
    rw [e]
  unfold zcl
  simp only [e, e2]
theorem zwd_set {ad : Nat → Nat → Nat} {tyI tyZ tyL : ClassId} {μ : zM} {t i k n : Nat} {v : Int} (hk : zob[n]? = some (t, i)) : (zwd ad tyI tyZ tyL μ).set n (ad t i, zcl ad tyI tyZ tyL (zset μ t i k v) (t, i)) = zwd ad tyI tyZ tyL (zset μ t i k v) := by
  unfold zwd
  exact zmapset (g := fun q => (ad q.1 q.2, zcl ad tyI tyZ tyL (zset μ t i k v) q)) zob_nd hk (fun y _ hy => by rw [zcl_set hy])
theorem zcl_cpy {ad : Nat → Nat → Nat} {tyI tyZ tyL : ClassId} {μ : zM} {t i sp u j dp n : Nat} {y : Nat × Nat} (h : y ≠ (u, j)) : zcl ad tyI tyZ tyL (zcpy μ t i sp u j dp n) y = zcl ad tyI tyZ tyL μ y := by
  obtain ⟨u', j'⟩ := y
  have e : ∀ x, zcpy μ t i sp u j dp n u' j' x = μ u' j' x := fun x => by
    unfold zcpy
    rw [if_neg]
    rintro ⟨rfl, rfl, -⟩
    exact h rfl
  have e2 : zsl ad (zcpy μ t i sp u j dp n) u' j' = zsl ad μ u' j' := by
    funext x
    unfold zsl
    rw [e]
  unfold zcl
  simp only [e, e2]
theorem zwd_cpy {ad : Nat → Nat → Nat} {tyI tyZ tyL : ClassId} {μ : zM} {t i sp u j dp n x : Nat} (hk : zob[x]? = some (u, j)) : (zwd ad tyI tyZ tyL μ).set x (ad u j, zcl ad tyI tyZ tyL (zcpy μ t i sp u j dp n) (u, j)) = zwd ad tyI tyZ tyL (zcpy μ t i sp u j dp n) := by
  unfold zwd
  exact zmapset (g := fun q => (ad q.1 q.2, zcl ad tyI tyZ tyL (zcpy μ t i sp u j dp n) q)) zob_nd hk (fun y _ hy => by rw [zcl_cpy hy])
theorem zset_self (μ : zM) (t i k : Nat) (v : Int) : zset μ t i k v t i k = v := by simp [zset]
theorem zmo_set {μ : zM} {t i k : Nat} {v : Int} (h : zmo μ) (h1 : zsk t k = 1 → zin v) (h2 : zsk t k = 2 → v = 0 ∨ v = 1) (h3 : zsk t k = 3 → zinL v) : zmo (zset μ t i k v) := by
  intro u j n
  unfold zset
  by_cases e : u = t ∧ j = i ∧ n = k
  · obtain ⟨rfl, rfl, rfl⟩ := e
    simp only [and_self, if_true]
    exact ⟨h1, h2, h3⟩
  · rw [if_neg e]
    exact h u j n
/-! locals -/
theorem znth_put {α : Type} : ∀ (l : List (Option α)) (k i : Nat) (x : Option α), znth (zput l k x) i = if i = k ∧ k < l.length then x else znth l i
  | [], k, i, x => by cases i <;> simp [zput, znth]
  | a :: l, 0, 0, x => by simp [zput, znth]
  | a :: l, 0, i + 1, x => by simp [zput, znth]
  | a :: l, k + 1, 0, x => by simp [zput, znth]
  | a :: l, k + 1, i + 1, x => by
    have := znth_put l k i x
    simp only [zput, znth, this, List.length_cons]
    by_cases h : i = k ∧ k < l.length
    · rw [if_pos h, if_pos ⟨by omega, by omega⟩]
    · rw [if_neg h, if_neg (by omega)]
theorem zput_len {α : Type} : ∀ (l : List α) (k : Nat) (x : α), (zput l k x).length = l.length
  | [], _, _ => rfl
  | _ :: _, 0, _ => rfl
  | _ :: l, k + 1, x => by simp [zput, zput_len l k x]
theorem zkl_len : ∀ (l : List (Option zV)) (k : Nat), (zkl l k).length = l.length
  | [], _ => rfl
  | _ :: _, 0 => rfl
  | _ :: _, 1 => rfl
  | _ :: l, k + 2 => by simp [zkl, zkl_len l (k + 1)]
theorem znth_kl : ∀ (l : List (Option zV)) (k i : Nat) (u : zV), znth (zkl l k) i = some u → znth l i = some u ∧ ¬ (i + 1 = k ∧ ∃ a, u = zL a)
  | [], _, _, _, h => by cases h
  | a :: l, 0, i, u, h => ⟨h, by omega⟩
  | a :: l, 1, 0, u, h => by
    unfold zkl znth at h
    split at h
    · cases h
    · next x hx =>
      refine ⟨h, ?_⟩
      rintro ⟨-, b, rfl⟩
      exact hx b h
  | a :: l, 1, i + 1, u, h => ⟨h, by omega⟩
  | a :: l, k + 2, 0, u, h => ⟨h, by omega⟩
  | a :: l, k + 2, i + 1, u, h => by
    have := znth_kl l (k + 1) i u h
    exact ⟨this.1, fun q => this.2 ⟨by omega, q.2⟩⟩
theorem zmask_len : ∀ (b : List Bool) (l : List (Option zV)), (zmask b l).length = l.length
  | true :: b, _ :: l => by simp [zmask, zmask_len b l]
  | false :: b, _ :: l => by simp [zmask, zmask_len b l]
  | [], _ => by simp [zmask]
  | true :: _, [] => rfl
  | false :: _, [] => rfl
theorem znth_mask : ∀ (b : List Bool) (l : List (Option zV)) (i : Nat) (u : zV), znth (zmask b l) i = some u → znth l i = some u
  | true :: b, _ :: l, 0, u, h => h
  | true :: b, _ :: l, i + 1, u, h => znth_mask b l i u h
  | false :: b, _ :: l, 0, u, h => by cases h
  | false :: b, _ :: l, i + 1, u, h => znth_mask b l i u h
  | [], _, _, _, h => by simpa [zmask] using h
  | true :: _, [], _, _, h => by cases h
  | false :: _, [], _, _, h => by cases h
def zll (ad : Nat → Nat → Nat) : Nat → List (Option zV) → List (Nat × Value)
  | _, [] => []
  | n, some v :: r => (n, zvl ad v) :: zll ad (n + 1) r
  | n, none :: r => zll ad (n + 1) r
theorem zll_in (ad : Nat → Nat → Nat) : ∀ (ls : List (Option zV)) (n j : Nat) (w : zV), znth ls j = some w → (n + j, zvl ad w) ∈ zll ad n ls
  | [], _, _, _, h => by cases h
  | some v :: r, n, 0, w, h => by
    have e : v = w := Option.some.inj h
    subst e
    exact List.mem_cons_self
  | none :: r, n, 0, w, h => by cases h
  | some v :: r, n, j + 1, w, h => by
    have := zll_in ad r (n + 1) j w h
    rw [show n + 1 + j = n + (j + 1) by omega] at this
    exact List.mem_cons_of_mem _ this
  | none :: r, n, j + 1, w, h => by
    have := zll_in ad r (n + 1) j w h
    rw [show n + 1 + j = n + (j + 1) by omega] at this
    exact this
theorem zll_of (ad : Nat → Nat → Nat) : ∀ (ls : List (Option zV)) (n : Nat) (q : Nat × Value), q ∈ zll ad n ls → ∃ j w, znth ls j = some w ∧ q = (n + j, zvl ad w)
  | [], _, _, h => by cases h
  | some v :: r, n, q, h => by
    rcases List.mem_cons.mp h with rfl | h
    · exact ⟨0, v, rfl, rfl⟩
    · obtain ⟨j, w, h1, rfl⟩ := zll_of ad r (n + 1) q h
      exact ⟨j + 1, w, h1, by rw [show n + 1 + j = n + (j + 1) by omega]⟩
  | none :: r, n, q, h => by
    obtain ⟨j, w, h1, rfl⟩ := zll_of ad r (n + 1) q h
    exact ⟨j + 1, w, h1, by rw [show n + 1 + j = n + (j + 1) by omega]⟩
def zLo (ad : Nat → Nat → Nat) (nL : Nat) (lsM : Array Slot) (ls : List (Option zV)) : Prop := ls.length = nL ∧ lv_has lsM nL (zll ad 0 ls)
theorem zLo_at {ad : Nat → Nat → Nat} {nL : Nat} {lsM : Array Slot} {ls : List (Option zV)} (h : zLo ad nL lsM ls) {j : Nat} {w : zV} (hj : znth ls j = some w) : lsM[j]? = some (.val (zvl ad w)) := by
  have := h.2.2.2 _ (zll_in ad ls 0 j w hj)
  simpa using this
theorem zLo_sub {ad : Nat → Nat → Nat} {nL : Nat} {lsM : Array Slot} {ls ls' : List (Option zV)} (h : zLo ad nL lsM ls) (hn : ls'.length = nL) (hs : ∀ i u, znth ls' i = some u → znth ls i = some u) : zLo ad nL lsM ls' := by
  refine ⟨hn, h.2.1, h.2.2.1, fun q hq => ?_⟩
  obtain ⟨j, w, h1, rfl⟩ := zll_of ad ls' 0 q hq
  have := zLo_at h (hs j w h1)
  simpa using this
theorem zvl_cat (ad : Nat → Nat → Nat) (w : zV) : (zvl ad w).category = zcat w := by
  rcases w with a | a | q <;> rfl
theorem zLo_put {ad : Nat → Nat → Nat} {nL k : Nat} {lsM : Array Slot} {ls : List (Option zV)} {w : zV} (hn : ls.length = nL) (h : lv_has lsM nL ((k, zvl ad w) :: (zll ad 0 ls).filter (fun q => !(q.1 == k) && !(q.1 + 1 == k && q.2.category == 2)))) : zLo ad nL lsM (zput (zkl ls k) k (some w)) := by
  refine ⟨by rw [zput_len, zkl_len, hn], h.1, h.2.1, fun q hq => ?_⟩
  obtain ⟨j, u, h1, rfl⟩ := zll_of ad _ 0 q hq
  rw [znth_put] at h1
  split at h1
  · next e =>
    have e1 := Option.some.inj h1
    subst e1
    rw [e.1]
    have := h.2.2 _ List.mem_cons_self
    simpa using this
  · next e =>
    obtain ⟨h2, h3⟩ := znth_kl ls k j u h1
    have hjk : j ≠ k := by
      intro ejk
      apply e
      refine ⟨ejk, ?_⟩
      rw [zkl_len]
      rcases Nat.lt_or_ge k ls.length with q | q
      · exact q
      · exfalso
        have hz : ∀ (l : List (Option zV)) (x : Nat), l.length ≤ x → znth l x = none := by
          intro l
          induction l with
          | nil => intro x _; rfl
          | cons a l ih => intro x hx; cases x with
            | zero => simp at hx
            | succ x => exact ih x (by simpa using hx)
        rw [hz ls j (by omega)] at h2
        cases h2
    refine h.2.2 _ (List.mem_cons_of_mem _ (List.mem_filter.mpr ⟨zll_in ad ls 0 j u h2, ?_⟩))
    simp only [Nat.zero_add, zvl_cat]
    have e1 : (j == k) = false := by simpa using hjk
    rw [e1]
    by_cases e2 : j + 1 = k
    · have e3 : zcat u ≠ 2 := by
        intro e3
        apply h3
        refine ⟨e2, ?_⟩
        rcases u with a | a | q
        · simp [zcat] at e3
        · exact ⟨a, rfl⟩
        · simp [zcat] at e3
      have e4 : (zcat u == 2) = false := by simpa using e3
      rw [e4]; simp
    · have e4 : (j + 1 == k) = false := by simpa using e2
      rw [e4]; simp
theorem zLo_put2 {ad : Nat → Nat → Nat} {nL k : Nat} {lsM : Array Slot} {ls : List (Option zV)} {w : Int} (hn : ls.length = nL) (hk : k + 1 < nL) (h : lv_has lsM nL ((k, zvl ad (zL w)) :: (zll ad 0 ls).filter (fun q => !(q.1 == k) && (!(q.1 == k + 1) && !(q.1 + 1 == k && q.2.category == 2))))) : zLo ad nL lsM (zput (zput (zkl ls k) k (some (zL w))) (k + 1) none) := by
  refine ⟨by rw [zput_len, zput_len, zkl_len, hn], h.1, h.2.1, fun q hq => ?_⟩
  obtain ⟨j, u, h1, rfl⟩ := zll_of ad _ 0 q hq
  rw [znth_put, zput_len, zkl_len] at h1
  split at h1
  · cases h1
  · next e0 =>
    rw [znth_put, zkl_len] at h1
    split at h1
    · next e =>
      have e1 := Option.some.inj h1
      subst e1
      rw [e.1]
      have := h.2.2 _ List.mem_cons_self
      simpa using this
    · next e =>
      obtain ⟨h2, h3⟩ := znth_kl ls k j u h1
      refine h.2.2 _ (List.mem_cons_of_mem _ (List.mem_filter.mpr ⟨zll_in ad ls 0 j u h2, ?_⟩))
      simp only [Nat.zero_add, zvl_cat]
      have e1 : (j == k) = false := by
        have : j ≠ k := fun q => e ⟨q, by omega⟩
        simpa using this
      have e5 : (j == k + 1) = false := by
        have : j ≠ k + 1 := fun q => e0 ⟨q, by omega⟩
        simpa using this
      rw [e1, e5]
      by_cases e2 : j + 1 = k
      · have e3 : zcat u ≠ 2 := by
          intro e3
          apply h3
          refine ⟨e2, ?_⟩
          rcases u with a | a | q
          · simp [zcat] at e3
          · exact ⟨a, rfl⟩
          · simp [zcat] at e3
        have e4 : (zcat u == 2) = false := by simpa using e3
        rw [e4]; simp
      · have e4 : (j + 1 == k) = false := by simpa using e2
        rw [e4]; simp
