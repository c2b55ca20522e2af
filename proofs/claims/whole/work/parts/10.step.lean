/-! SOUNDNESS of the single steps -/
def zso (Γ : zG) (st : List zV) : Prop := ∀ v ∈ st, zvk Γ v
def zlo (Γ : zG) (ls : List (Option zV)) : Prop := ∀ i v, znth ls i = some v → zvk Γ v
theorem zso_c {Γ : zG} {v : zV} {st : List zV} (h : zvk Γ v) (hs : zso Γ st) : zso Γ (v :: st) := by
  intro w hw
  rcases List.mem_cons.mp hw with rfl | hw
  · exact h
  · exact hs w hw
theorem zso_t {Γ : zG} {v : zV} {st : List zV} (hs : zso Γ (v :: st)) : zso Γ st := fun w hw => hs w (List.mem_cons_of_mem _ hw)
theorem zso_h {Γ : zG} {v : zV} {st : List zV} (hs : zso Γ (v :: st)) : zvk Γ v := hs v List.mem_cons_self
theorem zlo_put {Γ : zG} {ls : List (Option zV)} {k : Nat} {v : zV} (h : zlo Γ ls) (hv : zvk Γ v) : zlo Γ (zput (zkl ls k) k (some v)) := by
  intro i u hu
  rw [znth_put] at hu
  split at hu
  · cases hu; exact hv
  · exact h i u (znth_kl ls k i u hu).1
theorem zlo_put2 {Γ : zG} {ls : List (Option zV)} {k : Nat} {v : zV} (h : zlo Γ ls) (hv : zvk Γ v) : zlo Γ (zput (zput (zkl ls k) k (some v)) (k + 1) none) := by
  intro i u hu
  rw [znth_put] at hu
  split at hu
  · cases hu
  · exact zlo_put h hv i u hu
theorem zld_iv {ls : List (Option zV)} {st : List zV} {μ : zM} {k : Nat} {q : zV → Bool} {o : zS} (h : zld ls st μ k q = some o) : ∃ v, znth ls k = some v ∧ q v = true ∧ o = (none, ls, v :: st, μ) := by
  unfold zld at h
  split at h
  · next v hv =>
    split at h
    · next hq => exact ⟨v, hv, hq, (Option.some.inj h).symm⟩
    · cases h
  · cases h
theorem zqi_iv {v : zV} (h : zqi v = true) : ∃ a, v = zI a := by
  rcases v with a | a | q
  · exact ⟨a, rfl⟩
  · cases h
  · cases h
theorem zql_iv {v : zV} (h : zql v = true) : ∃ a, v = zL a := by
  rcases v with a | a | q
  · cases h
  · exact ⟨a, rfl⟩
  · cases h
theorem zqr_iv {v : zV} (h : zqr v = true) : ∃ t i, v = zR t i := by
  rcases v with a | a | q
  · cases h
  · cases h
  · exact ⟨q.1, q.2, rfl⟩
theorem zsto_iv {ls : List (Option zV)} {st : List zV} {μ : zM} {k : Nat} {q : zV → Bool} {o : zS} (h : zsto ls st μ k q = some o) : ∃ v r, st = v :: r ∧ q v = true ∧ k < ls.length ∧ o = (none, zput (zkl ls k) k (some v), r, μ) := by
  unfold zsto at h
  split at h
  · next v r =>
    split at h
    · next hq =>
      rw [Bool.and_eq_true, decide_eq_true_eq] at hq
      exact ⟨v, r, rfl, hq.1, hq.2, (Option.some.inj h).symm⟩
    · cases h
  · cases h
theorem zstl_iv {ls : List (Option zV)} {st : List zV} {μ : zM} {k : Nat} {o : zS} (h : zstl ls st μ k = some o) : ∃ v r, st = zL v :: r ∧ k + 1 < ls.length ∧ o = (none, zput (zput (zkl ls k) k (some (zL v))) (k + 1) none, r, μ) := by
  unfold zstl at h
  split at h
  · next v r =>
    split at h
    · next hq => exact ⟨v, r, rfl, of_decide_eq_true hq, (Option.some.inj h).symm⟩
    · cases h
  · cases h
theorem zb1_iv {ls : List (Option zV)} {st : List zV} {μ : zM} {f : Int → Int → Int} {o : zS} (h : zb1 ls st μ f = some o) : ∃ x y r, st = zI y :: zI x :: r ∧ o = (none, ls, zI (f x y) :: r, μ) := by
  unfold zb1 at h
  split at h
  · exact ⟨_, _, _, rfl, (Option.some.inj h).symm⟩
  · cases h
theorem zbd_iv {ls : List (Option zV)} {st : List zV} {μ : zM} {f : Int → Int → Int} {o : zS} (h : zbd ls st μ f = some o) : ∃ x y r, st = zI y :: zI x :: r ∧ o = (some (y ≠ 0), ls, zI (f x y) :: r, μ) := by
  unfold zbd at h
  split at h
  · exact ⟨_, _, _, rfl, (Option.some.inj h).symm⟩
  · cases h
theorem zl1_iv {ls : List (Option zV)} {st : List zV} {μ : zM} {f : Int → Int → Int} {o : zS} (h : zl1 ls st μ f = some o) : ∃ x y r, st = zL y :: zL x :: r ∧ o = (none, ls, zL (f x y) :: r, μ) := by
  unfold zl1 at h
  split at h
  · exact ⟨_, _, _, rfl, (Option.some.inj h).symm⟩
  · cases h
theorem zldv_iv {ls : List (Option zV)} {st : List zV} {μ : zM} {f : Int → Int → Int} {o : zS} (h : zldv ls st μ f = some o) : ∃ x y r, st = zL y :: zL x :: r ∧ o = (some (y ≠ 0), ls, zL (f x y) :: r, μ) := by
  unfold zldv at h
  split at h
  · exact ⟨_, _, _, rfl, (Option.some.inj h).symm⟩
  · cases h
theorem zb1_rg {f : Int → Int → Int} (hf : ∀ x y, zin (f x y)) (Γ : zG) {x y : Int} {r : List zV} (hs : zso Γ (zI y :: zI x :: r)) : zso Γ (zI (f x y) :: r) := zso_c (hf x y) (zso_t (zso_t hs))
def zHp (s : State) (ad : Nat → Nat → Nat) (dC : Nat → ClassId) (dI : Nat → Nat → Nat) (tyI tyZ tyL : ClassId) (A : Nat → Prop) (μ : zM) (H : Heap) (locs : List Loc) : Prop :=
  va_P (dC, dI) vwCl (zwd ad tyI tyZ tyL μ) H ∧ va_D A (zwd ad tyI tyZ tyL μ) ∧ va_S A s.heap H locs ∧ zmo μ
def zGo (s : State) (ad : Nat → Nat → Nat) (A : Nat → Prop) (b : Nat) (Γ : zG) : Prop := match Γ with
  | none => True
  | some q => va_X b q.1 (fun k => Int32.ofInt (q.2 k)) s s.heap ∧ b < s.heap.size ∧ ¬ A b ∧ ad 0 0 = b ∧ q.1 < 2147483648 ∧ ∀ k, k < q.1 → zin (q.2 k)
def zCx (p : Program) (R : Room) (s : State) (mm : MethodId) (args : Array Value) (c : Code) (ad : Nat → Nat → Nat) (dC : Nat → ClassId) (dI : Nat → Nat → Nat) (tyI tyZ tyL : ClassId) (A : Nat → Prop) (b : Nat) (Γ : zG) (d m cells slots : Nat) : Prop :=
  (p.tables.exec = Jvm.exec ∧ c.code = zby m ∧ c.maxLocals = zml m ∧ s.vm.findClass (zy m).cls = some mm.cls) ∧ ((∀ w ∈ zlg, w.before args s = true) ∧ ∀ w ∈ zln, va_Nw w s) ∧ va_K (dC, dI) vwCl (zts tyI tyZ tyL) s ∧ (∀ q, s.heap.size ≤ q → A q) ∧ (d ≤ R.frames ∧ 36 * d ≤ R.locals ∧ cells ≤ R.cells ∧ slots ≤ R.slots) ∧ zEok m ∧ zGo s ad A b Γ
section
variable {p : Program} {l : Launch} {e : Env} {R : Room} {s : State} {mm : MethodId} {args : Array Value} {below : List Frame} {meth : Method} {c : Code}
variable {ad : Nat → Nat → Nat} {dC : Nat → ClassId} {dI : Nat → Nat → Nat} {tyI tyZ tyL : ClassId} {A : Nat → Prop} {b : Nat} {Γ : zG} {d m cells slots : Nat} {Qm : State → Prop}
/-- an object in the world: where it stands, what it is -/
theorem zob_at {μ : zM} {t i : Nat} (h : i < zcn t) (ho : zak t = 0) : ∃ k : Nat, zob[k]? = some (t, i) ∧ (zwd ad tyI tyZ tyL μ)[k]? = some (ad t i, .inr (zci t, (List.range (zTN t)).map (zsl ad μ t i))) := by
  obtain ⟨k, h1, h2⟩ := zat_wd (ad := ad) (tyI := tyI) (tyZ := tyZ) (tyL := tyL) (μ := μ) h
  refine ⟨k, h1, ?_⟩
  rw [h2]
  simp only [zcl, ho]
theorem zsl_set {μ : zM} {t i k n : Nat} {v : Int} : ((List.range n).map (zsl ad μ t i)).set k (zsl ad (zset μ t i k v) t i k) = (List.range n).map (zsl ad (zset μ t i k v) t i) := by
  apply List.ext_getElem?
  intro j
  rw [List.getElem?_set, List.getElem?_map, List.getElem?_map]
  by_cases hj : k = j
  · subst hj
    rw [if_pos rfl]
    simp only [List.length_map, List.length_range]
    by_cases hk : k < n
    · rw [if_pos hk, List.getElem?_range hk]; rfl
    · rw [if_neg hk, List.getElem?_eq_none (by simpa using Nat.le_of_not_lt hk)]; rfl
  · rw [if_neg hj]
    cases hl : (List.range n)[j]? with
    | none => rfl
    | some y =>
      have hy : y = j := by
        obtain ⟨h1, h2⟩ := List.getElem?_eq_some_iff.mp hl
        simp at h2; exact h2.symm
      show some _ = some _
      have e : zset μ t i k v t i y = μ t i y := by
        unfold zset
        rw [if_neg]
        rintro ⟨-, -, q⟩
        exact hj (by omega)
      unfold zsl
      rw [e]
theorem zgf_iv {ls : List (Option zV)} {st : List zV} {μ : zM} {a b' : Nat} {o : zS} (h : zgf zfk zrt ls st μ a b' = some o) : ∃ i r v, st = zR a i :: r ∧ o = (none, ls, v :: r, μ) ∧ zfk a b' ≠ 0 ∧ ((zfk a b' = 1 ∧ v = zI (μ a i b')) ∨ (zfk a b' = 2 ∧ v = zI (μ a i b')) ∨ (zfk a b' = 3 ∧ v = zL (μ a i b')) ∨ (zfk a b' = 4 ∧ v = zR (zrt a i b').1 (zrt a i b').2)) := by
  unfold zgf at h
  split at h
  · next t i r =>
    split at h
    · next ht =>
      subst ht
      split at h
      · next hk => exact ⟨i, r, _, rfl, (Option.some.inj h).symm, by omega, Or.inl ⟨hk, rfl⟩⟩
      · next hk => exact ⟨i, r, _, rfl, (Option.some.inj h).symm, by omega, Or.inr (Or.inl ⟨hk, rfl⟩)⟩
      · next hk => exact ⟨i, r, _, rfl, (Option.some.inj h).symm, by omega, Or.inr (Or.inr (Or.inl ⟨hk, rfl⟩))⟩
      · next hk => exact ⟨i, r, _, rfl, (Option.some.inj h).symm, by omega, Or.inr (Or.inr (Or.inr ⟨hk, rfl⟩))⟩
      · cases h
    · cases h
  · cases h
theorem zpf_iv {ls : List (Option zV)} {st : List zV} {μ : zM} {a b' : Nat} {o : zS} (h : zpf zfk ls st μ a b' = some o) : ∃ i r x, (o.2 = (ls, r, zset μ a i b' x)) ∧ zfk a b' ≠ 0 ∧ ((zfk a b' = 1 ∧ st = zI x :: zR a i :: r) ∨ (zfk a b' = 2 ∧ st = zI x :: zR a i :: r ∧ o.1 = some (x = 0 ∨ x = 1)) ∨ (zfk a b' = 3 ∧ st = zL x :: zR a i :: r)) := by
  unfold zpf at h
  split at h
  · next v t i r =>
    split at h
    · next ht =>
      subst ht
      split at h
      · next hk => cases h; exact ⟨i, r, v, rfl, by omega, Or.inl ⟨hk, rfl⟩⟩
      · next hk => cases h; exact ⟨i, r, v, rfl, by omega, Or.inr (Or.inl ⟨hk, rfl, rfl⟩)⟩
      · cases h
    · cases h
  · next v t i r =>
    split at h
    · next ht =>
      subst ht
      split at h
      · next hk => cases h; exact ⟨i, r, v, rfl, by omega, Or.inr (Or.inr ⟨hk, rfl⟩)⟩
      · cases h
    · cases h
  · cases h
theorem zvk_of {t i : Nat} (h : zvk Γ (zR t i)) (ht : 0 < t) : i < zcn t := by
  rcases h with h | h
  · exact h
  · have := h.1; dsimp only at this; omega
theorem zmo_fk {μ : zM} (h : zmo μ) {t i k : Nat} (ho : zak t = 0) : (zfk t k = 1 → zin (μ t i k)) ∧ (zfk t k = 2 → zin (μ t i k)) ∧ (zfk t k = 3 → zinL (μ t i k)) := by
  have e : zsk t k = zfk t k := by unfold zsk; rw [ho]; rfl
  obtain ⟨h1, h2, h3⟩ := h t i k
  rw [e] at h1 h2 h3
  refine ⟨h1, fun q => ?_, h3⟩
  rcases h2 q with r | r <;> rw [r] <;> exact ⟨by omega, by omega⟩
theorem zfk_N28 {t k : Nat} (h : zfk t k ≠ 0) : t < 44 ∧ k < 28 := by
  have e : ∀ (l : List Nat) (n : Nat), l.length ≤ n → zgd l n 0 = 0 := by
    intro l
    induction l with
    | nil => intro n _; cases n <;> rfl
    | cons a l ih =>
      intro n hn
      cases n with
      | zero => simp at hn
      | succ n => exact ih n (by simpa using hn)
  have e2 : ∀ (l : List (List Nat)) (n : Nat), l.length ≤ n → zgd l n [] = [] := by
    intro l
    induction l with
    | nil => intro n _; cases n <;> rfl
    | cons a l ih =>
      intro n hn
      cases n with
      | zero => simp at hn
      | succ n => exact ih n (by simpa using hn)
  refine ⟨?_, ?_⟩
  · rcases Nat.lt_or_ge t 44 with q | q
    · exact q
    · exfalso; apply h
      unfold zfk
      rw [e2 zfkl t (Nat.le_trans (Nat.le_of_ble_eq_true rfl) q)]
      cases k <;> rfl
  · rcases Nat.lt_or_ge k 28 with q | q
    · exact q
    · exfalso; apply h
      unfold zfk
      apply e
      refine Nat.le_trans ?_ q
      have hm : ∀ x ∈ zfkl, x.length ≤ 28 := by decide +kernel
      rcases Nat.lt_or_ge t 44 with q2 | q2
      · have : ∀ (l : List (List Nat)) (n : Nat), (∀ x ∈ l, x.length ≤ 28) → (zgd l n []).length ≤ 28 := by
          intro l
          induction l with
          | nil => intro n _; cases n <;> simp [zgd]
          | cons a l ih =>
            intro n hn
            cases n with
            | zero => exact hn a List.mem_cons_self
            | succ n => exact ih n (fun x hx => hn x (List.mem_cons_of_mem _ hx))
        exact this zfkl t hm
      · rw [e2 zfkl t (Nat.le_trans (Nat.le_of_ble_eq_true rfl) q2)]
        simp

set_option maxHeartbeats 4000000 in
theorem zgf_ok (C : zCx p R s mm args c ad dC dI tyI tyZ tyL A b Γ d m cells slots) {ix a b' pc pos : Nat} {k : Int} {ls : List (Option zV)} {st : List zV} {μ : zM} {o : zS} (hdg : decode (zby m) pc = .ok (.getfield ix, 3)) (hlk : zlk (zy m).cls (pc, 3, .getfield ix, a, b', k) pos = true) (heq : zgf zfk zrt ls st μ a b' = some o)
    {H : Heap} {locs : List Loc} {lsM : Array Slot} (hh : zHp s ad dC dI tyI tyZ tyL A μ H locs) (hs : zso Γ st)
    (kk : zso Γ o.2.2.1 → o.2.1 = ls → o.2.2.2 = μ → W p l e R s mm args below meth c H locs cells slots Qm (F0 mm (pc + 3) lsM (o.2.2.1.map (zvl ad)))) : W p l e R s mm args below meth c H locs cells slots Qm (F0 mm pc lsM (st.map (zvl ad))) := by
  obtain ⟨⟨hx, hb, hml, hown⟩, ⟨hts, hnw⟩, hK, hA, hR, hE, hG⟩ := C
  obtain ⟨hP, hD, hS, hmo⟩ := hh
  obtain ⟨i, r, v, rfl, rfl, hne, hv⟩ := zgf_iv heq
  obtain ⟨ht44, hk28⟩ := zfk_N28 hne
  obtain ⟨ho, h0, h10⟩ := zfk_ob a ht44 b' hk28 hne
  have hi : i < zcn a := zvk_of (zso_h hs) h0
  obtain ⟨g1, g2, g3, g4, g5⟩ := zTg_all a h0 h10
  obtain ⟨q0, hq1, hq2⟩ := zob_at (ad := ad) (tyI := tyI) (tyZ := tyZ) (tyL := tyL) (μ := μ) hi ho
  simp only [zlk, Bool.and_eq_true, decide_eq_true_eq, Bool.or_eq_true] at hlk
  obtain ⟨hbN, hlk⟩ := hlk
  have hf := zmo_fk (i := i) (k := b') hmo ho
  have hvz : zvl ad v = zsl ad μ a i b' := by
    unfold zsl
    rcases hv with ⟨h, rfl⟩ | ⟨h, rfl⟩ | ⟨h, rfl⟩ | ⟨h, rfl⟩ <;> rw [h] <;> rfl
  have hvk : zvk Γ v := by
    rcases hv with ⟨h, rfl⟩ | ⟨h, rfl⟩ | ⟨h, rfl⟩ | ⟨h, rfl⟩
    · exact hf.1 h
    · exact hf.2.1 h
    · exact hf.2.2 h
    · exact Or.inl (zrt_ok1 (a, i) (zob_mem hi) b' hk28 h)
  have hfs : ((List.range (zTN a)).map (zsl ad μ a i))[b']? = some (zvl ad v) := by
    rw [List.getElem?_map, List.getElem?_range hbN, hvz]; rfl
  have kk := kk (zso_c hvk (zso_t hs)) rfl rfl
  rcases hlk with h | h
  · have hw := hts _ (zat_in h)
    exact va_get (D := (dC, dI)) hx hb hts g2 hown hK hP q0 hq2 g1 b' hbN hw (fun x hx2 => by rw [g5 b' hbN] at hx2; exact hx2) hfs hdg kk
  · have hw := va_Nw.use (A := args) rfl (hnw _ (zat_inN h))
    exact va_getN (D := (dC, dI)) hx hb hts g2 hown hK hP q0 hq2 g1 b' hbN hw (fun x hx2 => by rw [g5 b' hbN] at hx2; exact hx2) hfs hdg kk
set_option maxHeartbeats 4000000 in
theorem zpf_fin (C : zCx p R s mm args c ad dC dI tyI tyZ tyL A b Γ d m cells slots) {ix a b' i pc pos : Nat} {k x : Int} {rest : List Value} {μ : zM} (hdg : decode (zby m) pc = .ok (.putfield ix, 3)) (hlk : zlk (zy m).cls (pc, 3, .putfield ix, a, b', k) pos = true) (hne : zfk a b' ≠ 0)
    {H : Heap} {locs : List Loc} {lsM : Array Slot} (hh : zHp s ad dC dI tyI tyZ tyL A μ H locs) (hi : i < zcn a) {v : Value} (hnar : narrow (zty a b') v = v) (hfit : fits (zty a b') v = true) (hvz : v = zsl ad (zset μ a i b' x) a i b') (hmo' : zmo (zset μ a i b' x))
    (kk : ∀ H' locs', zHp s ad dC dI tyI tyZ tyL A (zset μ a i b' x) H' locs' → W p l e R s mm args below meth c H' locs' cells slots Qm (F0 mm (pc + 3) lsM rest)) : W p l e R s mm args below meth c H locs cells slots Qm (F0 mm pc lsM (v :: .ref (ad a i) :: rest)) := by
  obtain ⟨⟨hx, hb, hml, hown⟩, ⟨hts, hnw⟩, hK, hA, hR, hE, hG⟩ := C
  obtain ⟨hP, hD, hS, hmo⟩ := hh
  obtain ⟨ht44, hk28⟩ := zfk_N28 hne
  obtain ⟨ho, h0, h10⟩ := zfk_ob a ht44 b' hk28 hne
  obtain ⟨g1, g2, g3, g4, g5⟩ := zTg_all a h0 h10
  simp only [zlk, Bool.and_eq_true, decide_eq_true_eq, Bool.or_eq_true, Bool.not_eq_true'] at hlk
  obtain ⟨⟨hbN, hfin⟩, hlk⟩ := hlk
  obtain ⟨q0, hq1, hq2⟩ := zob_at (ad := ad) (tyI := tyI) (tyZ := tyZ) (tyL := tyL) (μ := μ) hi ho
  have hse : (zwd ad tyI tyZ tyL μ).set q0 (ad a i, .inr (zci a, ((List.range (zTN a)).map (zsl ad μ a i)).set b' v)) = zwd ad tyI tyZ tyL (zset μ a i b' x) := by
    rw [hvz, zsl_set, ← zwd_set (v := x) (k := b') hq1]
    congr 2
    simp only [zcl, ho]
  have hl : b' < ((List.range (zTN a)).map (zsl ad μ a i)).length := by simpa using hbN
  have kk2 : ∀ (H1 : Heap) (locs1 : List Loc), va_P (dC, dI) vwCl ((zwd ad tyI tyZ tyL μ).set q0 (ad a i, .inr (zci a, ((List.range (zTN a)).map (zsl ad μ a i)).set b' v))) H1 → va_D A ((zwd ad tyI tyZ tyL μ).set q0 (ad a i, .inr (zci a, ((List.range (zTN a)).map (zsl ad μ a i)).set b' v))) → va_S A s.heap H1 locs1 → W p l e R s mm args below meth c H1 locs1 cells slots Qm (F0 mm (pc + 3) lsM rest) := by
    intro H1 locs1 hP1 hD1 hS1
    rw [hse] at hP1 hD1
    exact kk H1 locs1 ⟨hP1, hD1, hS1, hmo'⟩
  rcases hlk with h | h
  · have hw := hts _ (zat_in h)
    exact va_put (D := (dC, dI)) hx hb hts g2 (zty a) g3 g4 hown hK hP hD hS q0 hq2 g1 b' hbN hw (fun x hx2 => by rw [g5 b' hbN] at hx2; exact hx2) hfin (g3 b' hbN) hnar hfit hl hdg kk2
  · have hw := va_Nw.use (A := args) rfl (hnw _ (zat_inN h))
    exact va_putN (D := (dC, dI)) hx hb hts g2 (zty a) g3 g4 hown hK hP hD hS q0 hq2 g1 b' hbN hw (fun x hx2 => by rw [g5 b' hbN] at hx2; exact hx2) hfin (g3 b' hbN) hnar hfit hl hdg kk2
set_option maxHeartbeats 4000000 in
theorem zpf_ok (C : zCx p R s mm args c ad dC dI tyI tyZ tyL A b Γ d m cells slots) {ix a b' pc pos : Nat} {k : Int} {ls : List (Option zV)} {st : List zV} {μ : zM} {o : zS} (hdg : decode (zby m) pc = .ok (.putfield ix, 3)) (hlk : zlk (zy m).cls (pc, 3, .putfield ix, a, b', k) pos = true) (heq : zpf zfk ls st μ a b' = some o) (hPo : ∀ P, o.1 = some P → P)
    {H : Heap} {locs : List Loc} {lsM : Array Slot} (hh : zHp s ad dC dI tyI tyZ tyL A μ H locs) (hs : zso Γ st)
    (kk : ∀ H' locs', zHp s ad dC dI tyI tyZ tyL A o.2.2.2 H' locs' → zso Γ o.2.2.1 → o.2.1 = ls → W p l e R s mm args below meth c H' locs' cells slots Qm (F0 mm (pc + 3) lsM (o.2.2.1.map (zvl ad)))) : W p l e R s mm args below meth c H locs cells slots Qm (F0 mm pc lsM (st.map (zvl ad))) := by
  obtain ⟨i, r, x, ho2, hne, hv⟩ := zpf_iv heq
  obtain ⟨o1, o2⟩ := o
  dsimp only at ho2 hPo kk hv
  subst ho2
  obtain ⟨ht44, hk28⟩ := zfk_N28 hne
  obtain ⟨ho, h0, h10⟩ := zfk_ob a ht44 b' hk28 hne
  have hlk0 := hlk
  simp only [zlk, Bool.and_eq_true, decide_eq_true_eq, Bool.or_eq_true, Bool.not_eq_true'] at hlk0
  have hb27 : b' < 27 := Nat.lt_of_lt_of_le hlk0.1.1 (zfk_N a ht44)
  obtain ⟨t1, t2, t3⟩ := zty_k a h10 b' hb27
  have esk : zsk a b' = zfk a b' := by unfold zsk; rw [ho]; rfl
  have hmo := hh.2.2.2
  rcases hv with ⟨hk, rfl⟩ | ⟨hk, rfl, hp⟩ | ⟨hk, rfl⟩
  · have hi : i < zcn a := zvk_of (zso_h (zso_t hs)) h0
    refine zpf_fin C hdg hlk hne hh hi (x := x) (v := .int (Int32.ofInt x)) (by rw [t1 hk]; rfl) (by rw [t1 hk]; rfl) (by unfold zsl; rw [hk, zset_self]; rfl) ?_ fun H' locs' h => kk H' locs' h (zso_t (zso_t hs)) rfl
    exact zmo_set hmo (fun _ => zso_h hs) (fun q => by omega) (fun q => by omega)
  · have hi : i < zcn a := zvk_of (zso_h (zso_t hs)) h0
    have hx01 := hPo _ hp
    refine zpf_fin C hdg hlk hne hh hi (x := x) (v := .int (Int32.ofInt x)) (by rw [t2 hk]; exact (z_01 hx01).1) (by rw [t2 hk]; exact (z_01 hx01).2) (by unfold zsl; rw [hk, zset_self]; rfl) ?_ fun H' locs' h => kk H' locs' h (zso_t (zso_t hs)) rfl
    exact zmo_set hmo (fun q => by omega) (fun _ => hx01) (fun q => by omega)
  · have hi : i < zcn a := zvk_of (zso_h (zso_t hs)) h0
    refine zpf_fin C hdg hlk hne hh hi (x := x) (v := .long (Int64.ofInt x)) (by rw [t3 hk]; rfl) (by rw [t3 hk]; rfl) (by unfold zsl; rw [hk, zset_self]; rfl) ?_ fun H' locs' h => kk H' locs' h (zso_t (zso_t hs)) rfl
    exact zmo_set hmo (fun q => by omega) (fun q => by omega) (fun _ => zso_h hs)

theorem zar1 {μ : zM} {t i : Nat} (h : i < zcn t) (ho : zak t = 1) : ∃ k : Nat, zob[k]? = some (t, i) ∧ (zwd ad tyI tyZ tyL μ)[k]? = some (ad t i, .inl (tyI, zal t, .inl (fun k => Int32.ofInt (μ t i k)))) := by
  obtain ⟨k, h1, h2⟩ := zat_wd (ad := ad) (tyI := tyI) (tyZ := tyZ) (tyL := tyL) (μ := μ) h
  refine ⟨k, h1, ?_⟩
  rw [h2]
  simp only [zcl, ho]
theorem zar2 {μ : zM} {t i : Nat} (h : i < zcn t) (ho : zak t = 2) : ∃ k : Nat, zob[k]? = some (t, i) ∧ (zwd ad tyI tyZ tyL μ)[k]? = some (ad t i, .inl (tyZ, zal t, .inl (fun k => Int32.ofInt (μ t i k)))) := by
  obtain ⟨k, h1, h2⟩ := zat_wd (ad := ad) (tyI := tyI) (tyZ := tyZ) (tyL := tyL) (μ := μ) h
  refine ⟨k, h1, ?_⟩
  rw [h2]
  simp only [zcl, ho]
theorem zar3 {μ : zM} {t i : Nat} (h : i < zcn t) (ho : zak t = 3) : ∃ k : Nat, zob[k]? = some (t, i) ∧ (zwd ad tyI tyZ tyL μ)[k]? = some (ad t i, .inl (tyL, zal t, .inr (.inr (.inr (.inr (fun k => some (ad (zrt t i k).1 (zrt t i k).2))))))) := by
  obtain ⟨k, h1, h2⟩ := zat_wd (ad := ad) (tyI := tyI) (tyZ := tyZ) (tyL := tyL) (μ := μ) h
  refine ⟨k, h1, ?_⟩
  rw [h2]
  simp only [zcl, ho]
theorem zup1 {μ : zM} {t i k : Nat} {v : Int} : upd (fun j => Int32.ofInt (μ t i j)) k (Int32.ofInt v) = fun j => Int32.ofInt (zset μ t i k v t i j) := by
  funext j
  unfold upd zset
  by_cases h : j = k
  · simp [h]
  · simp [h]
theorem zar_set1 {μ : zM} {t i k n : Nat} {v : Int} (ho : zak t = 1) (hk : zob[n]? = some (t, i)) : (zwd ad tyI tyZ tyL μ).set n (ad t i, .inl (tyI, zal t, .inl (upd (fun j => Int32.ofInt (μ t i j)) k (Int32.ofInt v)))) = zwd ad tyI tyZ tyL (zset μ t i k v) := by
  rw [← zwd_set hk, zup1]
  congr 2
  simp only [zcl, ho]
theorem zar_set2 {μ : zM} {t i k n : Nat} {v : Int} (ho : zak t = 2) (hk : zob[n]? = some (t, i)) : (zwd ad tyI tyZ tyL μ).set n (ad t i, .inl (tyZ, zal t, .inl (upd (fun j => Int32.ofInt (μ t i j)) k (Int32.ofInt v)))) = zwd ad tyI tyZ tyL (zset μ t i k v) := by
  rw [← zwd_set hk, zup1]
  congr 2
  simp only [zcl, ho]
theorem zvk_ar {t i : Nat} (h : zvk Γ (zR t i)) (ho : zak t ≠ 9) : i < zcn t := by
  rcases h with h | h
  · exact h
  · exfalso
    apply ho
    have := h.1
    dsimp only at this
    rw [this]
    rfl
theorem zvk_sc {t i : Nat} (h : zvk Γ (zR t i)) (ho : zak t = 9) : t = 0 ∧ i = 0 := by
  rcases h with h | h
  · exact absurd ho (zak_9 t (zcn_lt h) (Nat.lt_of_le_of_lt (Nat.zero_le _) h))
  · exact ⟨h.1, h.2.1⟩
theorem zmo1 {μ : zM} (h : zmo μ) {t i k : Nat} (ho : zak t = 1) : zin (μ t i k) := (h t i k).1 (by unfold zsk; rw [ho]; rfl)
theorem zmo2 {μ : zM} (h : zmo μ) {t i k : Nat} (ho : zak t = 2) : zin (μ t i k) := by
  rcases (h t i k).2.1 (by unfold zsk; rw [ho]; rfl) with q | q <;> rw [q] <;> exact ⟨by omega, by omega⟩
theorem zmo_s1 {μ : zM} (h : zmo μ) {t i k : Nat} {v : Int} (ho : zak t = 1) (hv : zin v) : zmo (zset μ t i k v) := zmo_set h (fun _ => hv) (fun q => by unfold zsk at q; rw [ho] at q; cases q) (fun q => by unfold zsk at q; rw [ho] at q; cases q)
theorem zmo_s2 {μ : zM} (h : zmo μ) {t i k : Nat} {v : Int} (ho : zak t = 2) (hv : v = 0 ∨ v = 1) : zmo (zset μ t i k v) := zmo_set h (fun q => by unfold zsk at q; rw [ho] at q; cases q) (fun _ => hv) (fun q => by unfold zsk at q; rw [ho] at q; cases q)
theorem zal_44 {t i : Nat} (h : i < zcn t) : zal t < 2147483648 := zal_lt t (zcn_lt h)
theorem zial_iv {ls : List (Option zV)} {st : List zV} {μ : zM} {o : zS} (h : zial zak zal Γ ls st μ = some o) : ∃ k t i r, st = zI k :: zR t i :: r ∧ ((zak t = 1 ∧ o = (some (0 ≤ k ∧ k < (zal t : Int)), ls, zI (μ t i k.toNat) :: r, μ)) ∨ (zak t = 9 ∧ ∃ q, Γ = some q ∧ o = (some (0 ≤ k ∧ k < (q.1 : Int)), ls, zI (q.2 k.toNat) :: r, μ))) := by
  unfold zial at h
  split at h
  · next k t i r =>
    split at h
    · next hk => exact ⟨k, t, i, r, rfl, Or.inl ⟨hk, (Option.some.inj h).symm⟩⟩
    · next hk =>
      split at h
      · next L xs => exact ⟨k, t, i, r, rfl, Or.inr ⟨hk, (L, xs), rfl, (Option.some.inj h).symm⟩⟩
      · cases h
    · cases h
  · cases h
theorem zbal_iv {ls : List (Option zV)} {st : List zV} {μ : zM} {o : zS} (h : zbal zak zal ls st μ = some o) : ∃ k t i r, st = zI k :: zR t i :: r ∧ zak t = 2 ∧ o = (some (0 ≤ k ∧ k < (zal t : Int)), ls, zI (μ t i k.toNat) :: r, μ) := by
  unfold zbal at h
  split at h
  · next k t i r =>
    split at h
    · next hk => exact ⟨k, t, i, r, rfl, hk, (Option.some.inj h).symm⟩
    · cases h
  · cases h
theorem zaal_iv {ls : List (Option zV)} {st : List zV} {μ : zM} {o : zS} (h : zaal zrt zak zal ls st μ = some o) : ∃ k t i r, st = zI k :: zR t i :: r ∧ zak t = 3 ∧ o = (some (0 ≤ k ∧ k < (zal t : Int)), ls, zR (zrt t i k.toNat).1 (zrt t i k.toNat).2 :: r, μ) := by
  unfold zaal at h
  split at h
  · next k t i r =>
    split at h
    · next hk => exact ⟨k, t, i, r, rfl, hk, (Option.some.inj h).symm⟩
    · cases h
  · cases h
theorem zias_iv {ls : List (Option zV)} {st : List zV} {μ : zM} {o : zS} (h : zias zak zal ls st μ = some o) : ∃ v k t i r, st = zI v :: zI k :: zR t i :: r ∧ zak t = 1 ∧ o = (some (0 ≤ k ∧ k < (zal t : Int)), ls, r, zset μ t i k.toNat v) := by
  unfold zias at h
  split at h
  · next v k t i r =>
    split at h
    · next hk => exact ⟨v, k, t, i, r, rfl, hk, (Option.some.inj h).symm⟩
    · cases h
  · cases h
theorem zbas_iv {ls : List (Option zV)} {st : List zV} {μ : zM} {o : zS} (h : zbas zak zal ls st μ = some o) : ∃ v k t i r, st = zI v :: zI k :: zR t i :: r ∧ zak t = 2 ∧ o = (some ((0 ≤ k ∧ k < (zal t : Int)) ∧ (v = 0 ∨ v = 1)), ls, r, zset μ t i k.toNat v) := by
  unfold zbas at h
  split at h
  · next v k t i r =>
    split at h
    · next hk => exact ⟨v, k, t, i, r, rfl, hk, (Option.some.inj h).symm⟩
    · cases h
  · cases h
theorem zlen_iv {ls : List (Option zV)} {st : List zV} {μ : zM} {o : zS} (h : zlen zak zal Γ ls st μ = some o) : ∃ t i r, st = zR t i :: r ∧ (((zak t = 1 ∨ zak t = 2 ∨ zak t = 3) ∧ o = (none, ls, zI (zal t : Int) :: r, μ)) ∨ (zak t = 9 ∧ ∃ q, Γ = some q ∧ o = (none, ls, zI (q.1 : Int) :: r, μ))) := by
  unfold zlen at h
  split at h
  · next t i r =>
    split at h
    · next hk => exact ⟨t, i, r, rfl, Or.inl ⟨Or.inl hk, (Option.some.inj h).symm⟩⟩
    · next hk => exact ⟨t, i, r, rfl, Or.inl ⟨Or.inr (Or.inl hk), (Option.some.inj h).symm⟩⟩
    · next hk => exact ⟨t, i, r, rfl, Or.inl ⟨Or.inr (Or.inr hk), (Option.some.inj h).symm⟩⟩
    · next hk =>
      split at h
      · next L xs => exact ⟨t, i, r, rfl, Or.inr ⟨hk, (L, xs), rfl, (Option.some.inj h).symm⟩⟩
      · cases h
    · cases h
  · cases h
theorem zinc_iv {ls : List (Option zV)} {st : List zV} {μ : zM} {k : Nat} {n : Int} {o : zS} (h : zinc ls st μ k n = some o) : ∃ a, znth ls k = some (zI a) ∧ o = (none, zput (zkl ls k) k (some (zI (w32 (a + n)))), st, μ) := by
  unfold zinc at h
  split at h
  · next a ha => exact ⟨a, ha, (Option.some.inj h).symm⟩
  · cases h
theorem znth_lt {α : Type} : ∀ {l : List (Option α)} {i : Nat} {w : α}, znth l i = some w → i < l.length
  | [], _, _, h => by cases h
  | _ :: _, 0, _, _ => by simp
  | _ :: l, i + 1, w, h => by
    have := znth_lt (l := l) (i := i) (w := w) h
    simpa using this
theorem zdup_iv {ls : List (Option zV)} {st : List zV} {μ : zM} {o : zS} (h : zdup ls st μ = some o) : ∃ v r, st = v :: r ∧ zcat v = 1 ∧ o = (none, ls, v :: v :: r, μ) := by
  unfold zdup at h
  split at h
  · next v r =>
    split at h
    · next hc => exact ⟨v, r, rfl, hc, (Option.some.inj h).symm⟩
    · cases h
  · cases h
theorem zpop_iv {ls : List (Option zV)} {st : List zV} {μ : zM} {o : zS} (h : zpop ls st μ = some o) : ∃ v r, st = v :: r ∧ zcat v = 1 ∧ o = (none, ls, r, μ) := by
  unfold zpop at h
  split at h
  · next v r =>
    split at h
    · next hc => exact ⟨v, r, rfl, hc, (Option.some.inj h).symm⟩
    · cases h
  · cases h
theorem zdup2_iv {ls : List (Option zV)} {st : List zV} {μ : zM} {o : zS} (h : zdup2 ls st μ = some o) : ∃ v w r, st = v :: w :: r ∧ zcat v = 1 ∧ zcat w = 1 ∧ o = (none, ls, v :: w :: v :: w :: r, μ) := by
  unfold zdup2 at h
  split at h
  · next v w r =>
    split at h
    · next hc =>
      split at h
      · next hd => exact ⟨v, w, r, rfl, hc, hd, (Option.some.inj h).symm⟩
      · cases h
    · cases h
  · cases h
theorem zcv_iv {ls : List (Option zV)} {st : List zV} {μ : zM} {o : zS} (h : zcv ls st μ = some o) : ∃ a r, st = zI a :: r ∧ o = (none, ls, zL a :: r, μ) := by
  unfold zcv at h
  split at h
  · next a r => exact ⟨a, r, rfl, (Option.some.inj h).symm⟩
  · cases h
theorem zvc_iv {ls : List (Option zV)} {st : List zV} {μ : zM} {o : zS} (h : zvc ls st μ = some o) : ∃ a r, st = zL a :: r ∧ o = (none, ls, zI (w32 a) :: r, μ) := by
  unfold zvc at h
  split at h
  · next a r => exact ⟨a, r, rfl, (Option.some.inj h).symm⟩
  · cases h
theorem zneg_iv {ls : List (Option zV)} {st : List zV} {μ : zM} {o : zS} (h : zneg ls st μ = some o) : ∃ a r, st = zI a :: r ∧ o = (none, ls, zI (w32 (-a)) :: r, μ) := by
  unfold zneg at h
  split at h
  · next a r => exact ⟨a, r, rfl, (Option.some.inj h).symm⟩
  · cases h
theorem zlcm_iv {ls : List (Option zV)} {st : List zV} {μ : zM} {o : zS} (h : zlcm ls st μ = some o) : ∃ x y r, st = zL y :: zL x :: r ∧ o = (none, ls, zI (zlcmp x y) :: r, μ) := by
  unfold zlcm at h
  split at h
  · exact ⟨_, _, _, rfl, (Option.some.inj h).symm⟩
  · cases h
theorem z_lcmp {x y : Int} (hx : zinL x) (hy : zinL y) : lg_cmp (Int64.ofInt x) (Int64.ofInt y) = Int32.ofInt (zlcmp x y) := by
  unfold lg_cmp zlcmp
  have h1 : (Int64.ofInt x > Int64.ofInt y) ↔ x > y := z_ltL hy hx
  have h2 : (Int64.ofInt x = Int64.ofInt y) ↔ x = y := ⟨z_injL hx hy, fun h => by rw [h]⟩
  by_cases h : x > y
  · rw [if_pos (h1.mpr h), if_pos h]; rfl
  · rw [if_neg (fun q => h (h1.mp q)), if_neg h]
    by_cases h3 : x = y
    · rw [if_pos (h2.mpr h3), if_pos h3]; rfl
    · rw [if_neg (fun q => h3 (h2.mp q)), if_neg h3]; rfl
theorem z_nz {y : Int} (hy : zin y) (h : y ≠ 0) : ¬ Int32.ofInt y = 0 := fun q => h (z_inj hy z_zero q)
theorem z_nzL {y : Int} (hy : zinL y) (h : y ≠ 0) : ¬ Int64.ofInt y = 0 := fun q => h (z_injL hy ⟨by omega, by omega⟩ q)
theorem z_remL {a b : Int} (ha : zinL a) (hb : zinL b) : Int64.ofInt a - Int64.ofInt a / Int64.ofInt b * Int64.ofInt b = Int64.ofInt (a.tmod b) := by
  apply Int64.toInt_inj.mp
  rw [Jvm.Kit.i64_rem, z_tiL ha, z_tiL hb]
  exact (z_tiL (z_remrL ha)).symm
theorem z_lc (x : Int32) : zin x.toInt := z_rg x
theorem zlcmp_rg (x y : Int) : zin (zlcmp x y) := by
  unfold zlcmp zin
  split
  · omega
  · split <;> omega
set_option maxHeartbeats 8000000 in
theorem zsx_ok (C : zCx p R s mm args c ad dC dI tyI tyZ tyL A b Γ d m cells slots) {ins : Instr} {a b' pc len pos : Nat} {k : Int} {ls : List (Option zV)} {st : List zV} {μ : zM} {o : zS} (hdg : decode (zby m) pc = .ok (ins, len)) (hil : zil ins = 0 ∨ len = zil ins) (hok : zok (pc, len, ins, a, b', k) = true) (hlk : zlk (zy m).cls (pc, len, ins, a, b', k) pos = true) (heq : zsx zfk zrt zak zal Γ ins a b' k ls st μ = some o) (hPo : ∀ P, o.1 = some P → P)
    {H : Heap} {locs : List Loc} {lsM : Array Slot} (hh : zHp s ad dC dI tyI tyZ tyL A μ H locs) (hl : zLo ad (zml m) lsM ls) (hs : zso Γ st) (hv : zlo Γ ls)
    (kk : ∀ H' locs' lsM', zHp s ad dC dI tyI tyZ tyL A o.2.2.2 H' locs' → zLo ad (zml m) lsM' o.2.1 → zso Γ o.2.2.1 → zlo Γ o.2.1 → W p l e R s mm args below meth c H' locs' cells slots Qm (F0 mm (pc + len) lsM' (o.2.2.1.map (zvl ad)))) : W p l e R s mm args below meth c H locs cells slots Qm (F0 mm pc lsM (st.map (zvl ad))) := by
  have C0 := C
  obtain ⟨⟨hx, hb, hml, hown⟩, ⟨hts, hnw⟩, hK, hA, hR, hE, hG⟩ := C
  have hh0 := hh
  obtain ⟨hP, hD, hS, hmo⟩ := hh0
  unfold zsx at heq
  split at heq
  · next k' =>
    obtain rfl : len = 2 := by simpa [zil] using hil
    obtain ⟨v, h1, h2, rfl⟩ := zld_iv heq
    obtain ⟨t, i, rfl⟩ := zqr_iv h2
    exact lv_aload hx hb hdg (zLo_at hl h1) (kk _ _ _ hh hl (zso_c (hv _ _ h1) hs) hv)
  · next k' =>
    obtain rfl : len = 1 := by simpa [zil] using hil
    obtain ⟨v, h1, h2, rfl⟩ := zld_iv heq
    obtain ⟨t, i, rfl⟩ := zqr_iv h2
    exact lv_aload_n hx hb hdg rfl (zLo_at hl h1) (kk _ _ _ hh hl (zso_c (hv _ _ h1) hs) hv)
  · next k' =>
    obtain rfl : len = 2 := by simpa [zil] using hil
    obtain ⟨v, h1, h2, rfl⟩ := zld_iv heq
    obtain ⟨x, rfl⟩ := zqi_iv h2
    exact lv_iload hx hb hdg (zLo_at hl h1) (kk _ _ _ hh hl (zso_c (hv _ _ h1) hs) hv)
  · next k' =>
    obtain rfl : len = 1 := by simpa [zil] using hil
    obtain ⟨v, h1, h2, rfl⟩ := zld_iv heq
    obtain ⟨x, rfl⟩ := zqi_iv h2
    exact lv_iload_n hx hb hdg rfl (zLo_at hl h1) (kk _ _ _ hh hl (zso_c (hv _ _ h1) hs) hv)
  · next k' =>
    obtain rfl : len = 2 := by simpa [zil] using hil
    obtain ⟨v, h1, h2, rfl⟩ := zld_iv heq
    obtain ⟨x, rfl⟩ := zql_iv h2
    exact lv_lload hx hb hdg (zLo_at hl h1) (kk _ _ _ hh hl (zso_c (hv _ _ h1) hs) hv)
  · next k' =>
    obtain rfl : len = 1 := by simpa [zil] using hil
    obtain ⟨v, h1, h2, rfl⟩ := zld_iv heq
    obtain ⟨x, rfl⟩ := zql_iv h2
    exact lv_lload_n hx hb hdg rfl (zLo_at hl h1) (kk _ _ _ hh hl (zso_c (hv _ _ h1) hs) hv)
  · next k' =>
    obtain rfl : len = 2 := by simpa [zil] using hil
    obtain ⟨v, r, rfl, h2, h3, rfl⟩ := zsto_iv heq
    obtain ⟨t, i, rfl⟩ := zqr_iv h2
    refine lv_astore hx hb hdg hl.2 (by rw [← hl.1]; exact h3) rfl fun ls' hl' => ?_
    exact kk _ _ _ hh (zLo_put (w := zR t i) hl.1 hl') (zso_t hs) (zlo_put hv (zso_h hs))
  · next k' =>
    obtain rfl : len = 1 := by simpa [zil] using hil
    obtain ⟨v, r, rfl, h2, h3, rfl⟩ := zsto_iv heq
    obtain ⟨t, i, rfl⟩ := zqr_iv h2
    refine lv_astore_n hx hb hdg rfl hl.2 (by rw [← hl.1]; exact h3) rfl fun ls' hl' => ?_
    exact kk _ _ _ hh (zLo_put (w := zR t i) hl.1 hl') (zso_t hs) (zlo_put hv (zso_h hs))
  · next k' =>
    obtain rfl : len = 2 := by simpa [zil] using hil
    obtain ⟨v, r, rfl, h2, h3, rfl⟩ := zsto_iv heq
    obtain ⟨x, rfl⟩ := zqi_iv h2
    refine lv_istore hx hb hdg hl.2 (by rw [← hl.1]; exact h3) rfl fun ls' hl' => ?_
    exact kk _ _ _ hh (zLo_put (w := zI x) hl.1 hl') (zso_t hs) (zlo_put hv (zso_h hs))
  · next k' =>
    obtain rfl : len = 1 := by simpa [zil] using hil
    obtain ⟨v, r, rfl, h2, h3, rfl⟩ := zsto_iv heq
    obtain ⟨x, rfl⟩ := zqi_iv h2
    refine lv_istore_n hx hb hdg rfl hl.2 (by rw [← hl.1]; exact h3) rfl fun ls' hl' => ?_
    exact kk _ _ _ hh (zLo_put (w := zI x) hl.1 hl') (zso_t hs) (zlo_put hv (zso_h hs))
  · next k' =>
    obtain rfl : len = 2 := by simpa [zil] using hil
    obtain ⟨x, r, rfl, h3, rfl⟩ := zstl_iv heq
    refine lv_lstore hx hb hdg hl.2 (by rw [← hl.1]; exact h3) rfl fun ls' hl' => ?_
    exact kk _ _ _ hh (zLo_put2 (w := x) hl.1 (by rw [← hl.1]; exact h3) hl') (zso_t hs) (zlo_put2 hv (zso_h hs))
  · next k' =>
    obtain rfl : len = 1 := by simpa [zil] using hil
    obtain ⟨x, r, rfl, h3, rfl⟩ := zstl_iv heq
    refine lv_lstore_n hx hb hdg rfl hl.2 (by rw [← hl.1]; exact h3) rfl fun ls' hl' => ?_
    exact kk _ _ _ hh (zLo_put2 (w := x) hl.1 (by rw [← hl.1]; exact h3) hl') (zso_t hs) (zlo_put2 hv (zso_h hs))
  · next n =>
    obtain rfl : len = 1 := by simpa [zil] using hil
    cases heq
    have hn : -1 ≤ n ∧ n ≤ 5 := by simpa [zok] using hok
    exact lv_iconst hx hb hdg rfl (kk _ _ _ hh hl (zso_c (v := zI n) (show zin n from ⟨by omega, by omega⟩) hs) hv)
  · next n =>
    obtain rfl : len = 2 := by simpa [zil] using hil
    cases heq
    have hn : -128 ≤ n ∧ n ≤ 127 := by simpa [zok] using hok
    exact lv_bipush hx hb hdg (z_b8 hn) (kk _ _ _ hh hl (zso_c (v := zI n) (show zin n from ⟨by omega, by omega⟩) hs) hv)
  · next n =>
    obtain rfl : len = 3 := by simpa [zil] using hil
    cases heq
    have hn : -32768 ≤ n ∧ n ≤ 32767 := by simpa [zok] using hok
    exact lv_sipush hx hb hdg (z_b16 hn) (kk _ _ _ hh hl (zso_c (v := zI n) (show zin n from ⟨by omega, by omega⟩) hs) hv)
  · next n =>
    obtain rfl : len = 2 := by simpa [zil] using hil
    cases heq
    have hn : -2147483648 ≤ k ∧ k ≤ 2147483647 := by simpa [zok] using hok
    exact lv_ldc hx hb hown (hts _ (zat_in (by simpa [zlk] using hlk))) hdg (kk _ _ _ hh hl (zso_c (v := zI k) (show zin k from ⟨by omega, by omega⟩) hs) hv)
  · next n =>
    obtain rfl : len = 3 := by simpa [zil] using hil
    cases heq
    have hn : -2147483648 ≤ k ∧ k ≤ 2147483647 := by simpa [zok] using hok
    exact lv_ldcw hx hb hown (hts _ (zat_in (by simpa [zlk] using hlk))) hdg (kk _ _ _ hh hl (zso_c (v := zI k) (show zin k from ⟨by omega, by omega⟩) hs) hv)
  · next n =>
    obtain rfl : len = 3 := by simpa [zil] using hil
    cases heq
    have hn : -9223372036854775808 ≤ k ∧ k ≤ 9223372036854775807 := by simpa [zok] using hok
    exact lv_ldc2 hx hb hown (hts _ (zat_in (by simpa [zlk] using hlk))) hdg (kk _ _ _ hh hl (zso_c (v := zL k) (show zinL k from ⟨by omega, by omega⟩) hs) hv)
  · next n =>
    obtain rfl : len = 1 := by simpa [zil] using hil
    cases heq
    exact lv_lconst hx hb hdg rfl (kk _ _ _ hh hl (zso_c (v := zL ((n : Nat) : Int)) (show zinL _ from ⟨by omega, by have := n.isLt; omega⟩) hs) hv)
  · next n =>
    obtain rfl : len = 3 := by simpa [zil] using hil
    exact zgf_ok C0 hdg hlk heq hh hs fun h1 h2 h3 => kk _ _ _ (by rw [h3]; exact hh) (by rw [h2]; exact hl) h1 (by rw [h2]; exact hv)
  · next n =>
    obtain rfl : len = 3 := by simpa [zil] using hil
    exact zpf_ok C0 hdg hlk heq hPo hh hs fun H' locs' h1 h2 h3 => kk _ _ _ h1 (by rw [h3]; exact hl) h2 (by rw [h3]; exact hv)
  · obtain rfl : len = 1 := by simpa [zil] using hil
    obtain ⟨j, t, i, r, rfl, h⟩ := zial_iv heq
    rcases h with ⟨ht, rfl⟩ | ⟨ht, q, rfl, rfl⟩
    · obtain ⟨g1, g2⟩ := hPo _ rfl
      have hi := zvk_ar (zso_h (zso_t hs)) (by rw [ht]; decide)
      obtain ⟨q0, hq1, hq2⟩ := zar1 (ad := ad) (tyI := tyI) (tyZ := tyZ) (tyL := tyL) (μ := μ) hi ht
      refine va_iald (D := (dC, dI)) hx hb hK hP q0 0 hq2 rfl (z_vin g1 g2 (zal_44 hi)) hdg ?_
      rw [z_cl (zso_h hs)]
      exact kk _ _ _ hh hl (zso_c (v := zI _) (zmo1 hmo ht) (zso_t (zso_t hs))) hv
    · obtain ⟨g1, g2⟩ := hPo _ rfl
      obtain ⟨rfl, rfl⟩ := zvk_sc (zso_h (zso_t hs)) ht
      obtain ⟨f1, f2, f3, f4, f5, f6⟩ := hG
      show W p l e R s mm args below meth c H locs cells slots Qm (F0 mm pc lsM (.int (Int32.ofInt j) :: .ref (ad 0 0) :: r.map (zvl ad)))
      rw [f4]
      refine va_sld hx hb f1 f2 f3 hS (z_vin g1 g2 f5) hdg ?_
      rw [z_cl (zso_h hs)]
      exact kk _ _ _ hh hl (zso_c (v := zI _) (f6 _ (by omega)) (zso_t (zso_t hs))) hv
  · obtain rfl : len = 1 := by simpa [zil] using hil
    obtain ⟨j, t, i, r, rfl, ht, rfl⟩ := zbal_iv heq
    obtain ⟨g1, g2⟩ := hPo _ rfl
    have hi := zvk_ar (zso_h (zso_t hs)) (by rw [ht]; decide)
    obtain ⟨q0, hq1, hq2⟩ := zar2 (ad := ad) (tyI := tyI) (tyZ := tyZ) (tyL := tyL) (μ := μ) hi ht
    refine va_zald (D := (dC, dI)) hx hb hK hP q0 1 hq2 rfl (z_vin g1 g2 (zal_44 hi)) hdg ?_
    rw [z_cl (zso_h hs)]
    exact kk _ _ _ hh hl (zso_c (v := zI _) (zmo2 hmo ht) (zso_t (zso_t hs))) hv
  · obtain rfl : len = 1 := by simpa [zil] using hil
    obtain ⟨j, t, i, r, rfl, ht, rfl⟩ := zaal_iv heq
    obtain ⟨g1, g2⟩ := hPo _ rfl
    have hi := zvk_ar (zso_h (zso_t hs)) (by rw [ht]; decide)
    obtain ⟨q0, hq1, hq2⟩ := zar3 (ad := ad) (tyI := tyI) (tyZ := tyZ) (tyL := tyL) (μ := μ) hi ht
    refine va_aldq (D := (dC, dI)) hx hb hK hP q0 2 hq2 rfl (z_vin g1 g2 (zal_44 hi)) hdg ?_
    rw [z_cl (zso_h hs)]
    exact kk _ _ _ hh hl (zso_c (v := zR _ _) (Or.inl (zrt_ok2 (t, i) (zob_mem hi) ht j.toNat (show j.toNat < zal t by omega))) (zso_t (zso_t hs))) hv
  · obtain rfl : len = 1 := by simpa [zil] using hil
    obtain ⟨v, j, t, i, r, rfl, ht, rfl⟩ := zias_iv heq
    obtain ⟨g1, g2⟩ := hPo _ rfl
    have hi := zvk_ar (zso_h (zso_t (zso_t hs))) (by rw [ht]; decide)
    obtain ⟨q0, hq1, hq2⟩ := zar1 (ad := ad) (tyI := tyI) (tyZ := tyZ) (tyL := tyL) (μ := μ) hi ht
    refine va_iast (D := (dC, dI)) hx hb hK hP hD hS q0 0 hq2 rfl (z_vin g1 g2 (zal_44 hi)) hdg fun H1 locs1 hP1 hD1 hS1 => ?_
    rw [z_cl (zso_h (zso_t hs)), zar_set1 ht hq1] at hP1 hD1
    exact kk _ _ _ ⟨hP1, hD1, hS1, zmo_s1 hmo ht (zso_h hs)⟩ hl (zso_t (zso_t (zso_t hs))) hv
  · obtain rfl : len = 1 := by simpa [zil] using hil
    obtain ⟨v, j, t, i, r, rfl, ht, rfl⟩ := zbas_iv heq
    obtain ⟨⟨g1, g2⟩, g3⟩ := hPo _ rfl
    have hi := zvk_ar (zso_h (zso_t (zso_t hs))) (by rw [ht]; decide)
    obtain ⟨q0, hq1, hq2⟩ := zar2 (ad := ad) (tyI := tyI) (tyZ := tyZ) (tyL := tyL) (μ := μ) hi ht
    refine va_zast (D := (dC, dI)) hx hb hK hP hD hS q0 1 hq2 rfl (z_vin g1 g2 (zal_44 hi)) hdg fun H1 locs1 hP1 hD1 hS1 => ?_
    have e : vp_nar .boolean (Int32.ofInt v) = Int32.ofInt v := by
      rcases g3 with rfl | rfl <;> rfl
    rw [z_cl (zso_h (zso_t hs)), e, zar_set2 ht hq1] at hP1 hD1
    exact kk _ _ _ ⟨hP1, hD1, hS1, zmo_s2 hmo ht g3⟩ hl (zso_t (zso_t (zso_t hs))) hv
  · obtain rfl : len = 1 := by simpa [zil] using hil
    obtain ⟨t, i, r, rfl, h⟩ := zlen_iv heq
    rcases h with ⟨ht, rfl⟩ | ⟨ht, q, rfl, rfl⟩
    · rcases ht with ht | ht | ht
      · have hi := zvk_ar (zso_h hs) (by rw [ht]; decide)
        obtain ⟨q0, hq1, hq2⟩ := zar1 (ad := ad) (tyI := tyI) (tyZ := tyZ) (tyL := tyL) (μ := μ) hi ht
        have hz := zal_44 hi
        exact va_alen (D := (dC, dI)) hx hb hK hP q0 0 hq2 rfl rfl hdg (kk _ _ _ hh hl (zso_c (v := zI _) (show zin _ from ⟨by omega, by omega⟩) (zso_t hs)) hv)
      · have hi := zvk_ar (zso_h hs) (by rw [ht]; decide)
        obtain ⟨q0, hq1, hq2⟩ := zar2 (ad := ad) (tyI := tyI) (tyZ := tyZ) (tyL := tyL) (μ := μ) hi ht
        have hz := zal_44 hi
        exact va_alen (D := (dC, dI)) hx hb hK hP q0 1 hq2 rfl rfl hdg (kk _ _ _ hh hl (zso_c (v := zI _) (show zin _ from ⟨by omega, by omega⟩) (zso_t hs)) hv)
      · have hi := zvk_ar (zso_h hs) (by rw [ht]; decide)
        obtain ⟨q0, hq1, hq2⟩ := zar3 (ad := ad) (tyI := tyI) (tyZ := tyZ) (tyL := tyL) (μ := μ) hi ht
        have hz := zal_44 hi
        exact va_alen (D := (dC, dI)) hx hb hK hP q0 2 hq2 rfl rfl hdg (kk _ _ _ hh hl (zso_c (v := zI _) (show zin _ from ⟨by omega, by omega⟩) (zso_t hs)) hv)
    · obtain ⟨rfl, rfl⟩ := zvk_sc (zso_h hs) ht
      obtain ⟨f1, f2, f3, f4, f5, f6⟩ := hG
      show W p l e R s mm args below meth c H locs cells slots Qm (F0 mm pc lsM (.ref (ad 0 0) :: r.map (zvl ad)))
      rw [f4]
      exact va_slen hx hb f1 f2 f3 hS hdg (kk _ _ _ hh hl (zso_c (v := zI _) (show zin _ from ⟨by omega, by omega⟩) (zso_t hs)) hv)
  · obtain rfl : len = 1 := by simpa [zil] using hil
    obtain ⟨v, r, rfl, h1, rfl⟩ := zdup_iv heq
    exact lv_dup hx hb hdg (by rw [zvl_cat]; exact h1) (kk _ _ _ hh hl (zso_c (zso_h hs) hs) hv)
  · obtain rfl : len = 1 := by simpa [zil] using hil
    obtain ⟨v, r, rfl, h1, rfl⟩ := zpop_iv heq
    exact lv_pop hx hb hdg (by rw [zvl_cat]; exact h1) (kk _ _ _ hh hl (zso_t hs) hv)
  · obtain rfl : len = 1 := by simpa [zil] using hil
    obtain ⟨v, w, r, rfl, h1, h2, rfl⟩ := zdup2_iv heq
    exact lv_dup2_11 hx hb hdg (by rw [zvl_cat]; exact h1) (by rw [zvl_cat]; exact h2) (kk _ _ _ hh hl (zso_c (zso_h hs) (zso_c (zso_h (zso_t hs)) hs)) hv)
  · next k' n =>
    obtain rfl : len = 3 := by simpa [zil] using hil
    obtain ⟨x, h1, rfl⟩ := zinc_iv heq
    obtain ⟨q, hq⟩ := List.getElem?_of_mem (zll_in ad ls 0 k' _ h1)
    rw [Nat.zero_add] at hq
    refine lv_iinc (v := Int32.ofInt (w32 (x + n))) hx hb hdg hl.2 hq (z_add x n) (by rw [← hl.1]; exact znth_lt h1) rfl fun ls' hl' => ?_
    exact kk _ _ _ hh (zLo_put (w := zI (w32 (x + n))) hl.1 hl') hs (zlo_put hv (z_w32 _))
  · obtain rfl : len = 1 := by simpa [zil] using hil
    obtain ⟨x, y, r, rfl, rfl⟩ := zb1_iv heq
    refine lv_iadd hx hb hdg ?_
    rw [z_add]
    exact kk _ _ _ hh hl (zso_c (v := zI _) (z_w32 _) (zso_t (zso_t hs))) hv
  · obtain rfl : len = 1 := by simpa [zil] using hil
    obtain ⟨x, y, r, rfl, rfl⟩ := zb1_iv heq
    refine lv_isub hx hb hdg ?_
    rw [z_sub]
    exact kk _ _ _ hh hl (zso_c (v := zI _) (z_w32 _) (zso_t (zso_t hs))) hv
  · obtain rfl : len = 1 := by simpa [zil] using hil
    obtain ⟨x, y, r, rfl, rfl⟩ := zb1_iv heq
    refine lv_imul hx hb hdg ?_
    rw [z_mul]
    exact kk _ _ _ hh hl (zso_c (v := zI _) (z_w32 _) (zso_t (zso_t hs))) hv
  · obtain rfl : len = 1 := by simpa [zil] using hil
    obtain ⟨x, y, r, rfl, rfl⟩ := zb1_iv heq
    refine lv_iand hx hb hdg ?_
    rw [z_and]
    exact kk _ _ _ hh hl (zso_c (v := zI _) (z_rg _) (zso_t (zso_t hs))) hv
  · obtain rfl : len = 1 := by simpa [zil] using hil
    obtain ⟨x, y, r, rfl, rfl⟩ := zb1_iv heq
    refine lv_ior hx hb hdg ?_
    rw [z_or]
    exact kk _ _ _ hh hl (zso_c (v := zI _) (z_rg _) (zso_t (zso_t hs))) hv
  · obtain rfl : len = 1 := by simpa [zil] using hil
    obtain ⟨x, y, r, rfl, rfl⟩ := zb1_iv heq
    refine lv_ixor hx hb hdg ?_
    rw [z_xor]
    exact kk _ _ _ hh hl (zso_c (v := zI _) (z_rg _) (zso_t (zso_t hs))) hv
  · obtain rfl : len = 1 := by simpa [zil] using hil
    obtain ⟨x, y, r, rfl, rfl⟩ := zb1_iv heq
    refine lv_ishl hx hb hdg ?_
    rw [z_shl]
    exact kk _ _ _ hh hl (zso_c (v := zI _) (z_rg _) (zso_t (zso_t hs))) hv
  · obtain rfl : len = 1 := by simpa [zil] using hil
    obtain ⟨x, y, r, rfl, rfl⟩ := zb1_iv heq
    refine lv_ishr hx hb hdg ?_
    rw [z_shr]
    exact kk _ _ _ hh hl (zso_c (v := zI _) (z_rg _) (zso_t (zso_t hs))) hv
  · obtain rfl : len = 1 := by simpa [zil] using hil
    obtain ⟨x, y, r, rfl, rfl⟩ := zb1_iv heq
    exact lv_iushr hx hb hdg (z_ushr x y) (kk _ _ _ hh hl (zso_c (v := zI _) (z_rg _) (zso_t (zso_t hs))) hv)
  · obtain rfl : len = 1 := by simpa [zil] using hil
    obtain ⟨x, y, r, rfl, rfl⟩ := zbd_iv heq
    have h0 : y ≠ 0 := hPo _ rfl
    refine lv_idiv hx hb hdg (z_nz (zso_h hs) h0) ?_
    rw [z_div (zso_h (zso_t hs)) (zso_h hs)]
    exact kk _ _ _ hh hl (zso_c (v := zI _) (z_w32 _) (zso_t (zso_t hs))) hv
  · obtain rfl : len = 1 := by simpa [zil] using hil
    obtain ⟨x, y, r, rfl, rfl⟩ := zbd_iv heq
    have h0 : y ≠ 0 := hPo _ rfl
    refine lv_irem hx hb hdg (z_nz (zso_h hs) h0) ?_
    rw [z_rem (zso_h (zso_t hs)) (zso_h hs)]
    exact kk _ _ _ hh hl (zso_c (v := zI _) (z_remr (zso_h (zso_t hs))) (zso_t (zso_t hs))) hv
  · obtain rfl : len = 1 := by simpa [zil] using hil
    obtain ⟨x, r, rfl, rfl⟩ := zneg_iv heq
    refine lv_ineg hx hb hdg ?_
    rw [z_neg]
    exact kk _ _ _ hh hl (zso_c (v := zI _) (z_w32 _) (zso_t hs)) hv
  · obtain rfl : len = 1 := by simpa [zil] using hil
    obtain ⟨x, r, rfl, rfl⟩ := zcv_iv heq
    exact lv_i2l hx hb hdg (z_i2l (zso_h hs)) (kk _ _ _ hh hl (zso_c (v := zL x) (show zinL x from by have := zso_h hs; exact ⟨by have := this.1; omega, by have := this.2; omega⟩) (zso_t hs)) hv)
  · obtain rfl : len = 1 := by simpa [zil] using hil
    obtain ⟨x, r, rfl, rfl⟩ := zvc_iv heq
    exact lv_l2i hx hb hdg (z_l2i (zso_h hs)) (kk _ _ _ hh hl (zso_c (v := zI _) (z_w32 _) (zso_t hs)) hv)
  · obtain rfl : len = 1 := by simpa [zil] using hil
    obtain ⟨x, y, r, rfl, rfl⟩ := zl1_iv heq
    refine lv_ladd hx hb hdg ?_
    rw [z_addL]
    exact kk _ _ _ hh hl (zso_c (v := zL _) (z_w64 _) (zso_t (zso_t hs))) hv
  · obtain rfl : len = 1 := by simpa [zil] using hil
    obtain ⟨x, y, r, rfl, rfl⟩ := zl1_iv heq
    refine lv_lmul hx hb hdg ?_
    rw [z_mulL]
    exact kk _ _ _ hh hl (zso_c (v := zL _) (z_w64 _) (zso_t (zso_t hs))) hv
  · obtain rfl : len = 1 := by simpa [zil] using hil
    obtain ⟨x, y, r, rfl, rfl⟩ := zl1_iv heq
    refine lv_land hx hb hdg ?_
    rw [z_land]
    exact kk _ _ _ hh hl (zso_c (v := zL _) (z_rgL _) (zso_t (zso_t hs))) hv
  · obtain rfl : len = 1 := by simpa [zil] using hil
    obtain ⟨x, y, r, rfl, rfl⟩ := zldv_iv heq
    have h0 : y ≠ 0 := hPo _ rfl
    refine lv_ldiv hx hb hdg (z_nzL (zso_h hs) h0) ?_
    rw [z_divL (zso_h (zso_t hs)) (zso_h hs)]
    exact kk _ _ _ hh hl (zso_c (v := zL _) (z_w64 _) (zso_t (zso_t hs))) hv
  · obtain rfl : len = 1 := by simpa [zil] using hil
    obtain ⟨x, y, r, rfl, rfl⟩ := zldv_iv heq
    have h0 : y ≠ 0 := hPo _ rfl
    refine lv_lrem hx hb hdg (z_nzL (zso_h hs) h0) ?_
    rw [z_remL (zso_h (zso_t hs)) (zso_h hs)]
    exact kk _ _ _ hh hl (zso_c (v := zL _) (z_remrL (zso_h (zso_t hs))) (zso_t (zso_t hs))) hv
  · obtain rfl : len = 1 := by simpa [zil] using hil
    obtain ⟨x, y, r, rfl, rfl⟩ := zlcm_iv heq
    refine W.lcmp hx hb hdg ?_
    rw [z_lcmp (zso_h (zso_t hs)) (zso_h hs)]
    exact kk _ _ _ hh hl (zso_c (v := zI _) (zlcmp_rg x y) (zso_t (zso_t hs))) hv
  · cases heq
end
