/-! SOUNDNESS, whole -/
theorem zcopy_w : Cond.native arraycopyName ∈ zlg ∧ Cond.static arraycopyName ∈ zlg ∧ Cond.initialized "java/lang/System" ∈ zlg := ⟨zat_in (p := 480) (by decide +kernel), zat_in (p := 479) (by decide +kernel), zat_in (p := 77) (by decide +kernel)⟩
def zhd (es : List zE) (pc : Nat) : Prop := match es with
  | [] => True
  | e :: _ => e.1 = pc
theorem zco_suf : ∀ (l : List zE) (e : zE) (r : List zE), zco l = true → (e :: r) <:+ l → zhd r (e.1 + e.2.1)
  | [], e, r, _, h => by simp at h
  | [f], e, r, _, h => by
    rcases List.suffix_cons_iff.mp h with h | h
    · cases h; trivial
    · simp at h
  | f :: g :: l, e, r, hc, h => by
    simp only [zco, Bool.and_eq_true, decide_eq_true_eq] at hc
    rcases List.suffix_cons_iff.mp h with h | h
    · cases h
      exact hc.1.symm
    · exact zco_suf (g :: l) e r hc.2 h
theorem zsf_hd (m t : Nat) : zhd (zsf m t) t := by
  unfold zsf
  generalize zcode m = l
  induction l with
  | nil => trivial
  | cons e l ih =>
    rw [List.dropWhile_cons]
    split
    · exact ih
    · next h => simpa [zhd] using h
theorem zsf_suf (m t : Nat) : zsf m t <:+ zcode m := List.dropWhile_suffix _
theorem zcode_in (m : Nat) : zcode m = [] ∨ zcode m ∈ zCT := by
  have e : ∀ (l : List (List zE)) (n : Nat), zgd l n [] = [] ∨ zgd l n [] ∈ l := by
    intro l
    induction l with
    | nil => intro n; cases n <;> exact Or.inl rfl
    | cons a l ih =>
      intro n
      cases n with
      | zero => exact Or.inr List.mem_cons_self
      | succ n => exact (ih n).imp id (List.mem_cons_of_mem _)
  exact e zCT m
theorem zil_all {m : Nat} {g : zE} (h : g ∈ zcode m) : zil g.2.2.1 = 0 ∨ g.2.1 = zil g.2.2.1 := by
  rcases zcode_in m with q | q
  · rw [q] at h; cases h
  · have h1 := List.all_eq_true.mp (List.all_eq_true.mp zil_ok _ q) g h
    simpa [Bool.or_eq_true] using h1
theorem ztake_iv : ∀ (n : Nat) (acc st : List zV) (as r : List zV), ztake n acc st = some (as, r) → ∃ xs : List zV, st = xs ++ r ∧ as = xs.reverse ++ acc ∧ xs.length = n
  | 0, acc, st, as, r, h => by
    cases h
    exact ⟨[], rfl, rfl, rfl⟩
  | n + 1, acc, [], as, r, h => by cases h
  | n + 1, acc, v :: st, as, r, h => by
    obtain ⟨xs, h1, h2, h3⟩ := ztake_iv n (v :: acc) st as r h
    exact ⟨v :: xs, by rw [h1]; rfl, by rw [h2]; simp, by rw [List.length_cons, h3]⟩
theorem zsum_ok (ad : Nat → Nat → Nat) : ∀ r : List zV, ((r.map (zvl ad)).map fun v => v.category).sum = zsum r
  | [] => rfl
  | v :: r => by
    have := zsum_ok ad r
    simp only [List.map_cons, List.sum_cons, zvl_cat, zsum] at this ⊢
    omega
theorem zexp_args (ad : Nat → Nat → Nat) : ∀ (as : List zV) (k j : Nat) (w : zV), znth (zexp as) j = some w → (k + j, zvl ad w) ∈ lv_args k (as.map (zvl ad))
  | [], _, _, _, h => by cases h
  | .inl a :: r, k, 0, w, h => by
    cases h
    exact List.mem_cons_self
  | .inl a :: r, k, j + 1, w, h => by
    have := zexp_args ad r (k + 1) j w h
    rw [show k + 1 + j = k + (j + 1) by omega] at this
    exact List.mem_cons_of_mem _ this
  | .inr (.inr q) :: r, k, 0, w, h => by
    cases h
    exact List.mem_cons_self
  | .inr (.inr q) :: r, k, j + 1, w, h => by
    have := zexp_args ad r (k + 1) j w h
    rw [show k + 1 + j = k + (j + 1) by omega] at this
    exact List.mem_cons_of_mem _ this
  | .inr (.inl a) :: r, k, 0, w, h => by
    cases h
    exact List.mem_cons_self
  | .inr (.inl a) :: r, k, 1, w, h => by cases h
  | .inr (.inl a) :: r, k, j + 2, w, h => by
    have := zexp_args ad r (k + 2) j w h
    rw [show k + 2 + j = k + (j + 2) by omega] at this
    exact List.mem_cons_of_mem _ this
theorem zexp_len (ad : Nat → Nat → Nat) : ∀ as : List zV, (lg_sl (as.map (zvl ad))).length = (zexp as).length
  | [] => rfl
  | .inl a :: r => by
    have := zexp_len ad r
    simp only [lg_sl, List.map_cons, List.flatMap_cons, List.length_append] at this ⊢
    rw [this]
    simp [zvl, zexp, Value.category]; omega
  | .inr (.inr q) :: r => by
    have := zexp_len ad r
    simp only [lg_sl, List.map_cons, List.flatMap_cons, List.length_append] at this ⊢
    rw [this]
    simp [zvl, zexp, Value.category]; omega
  | .inr (.inl a) :: r => by
    have := zexp_len ad r
    simp only [lg_sl, List.map_cons, List.flatMap_cons, List.length_append] at this ⊢
    rw [this]
    simp [zvl, zexp, Value.category]; omega
theorem znth_app {α : Type} : ∀ (l : List (Option α)) (n i : Nat) (w : α), znth (l ++ List.replicate n none) i = some w → znth l i = some w
  | [], 0, i, w, h => by cases h
  | [], n + 1, 0, w, h => by cases h
  | [], n + 1, i + 1, w, h => by
    have := znth_app ([] : List (Option α)) n i w (by simpa [List.replicate_succ, znth] using h)
    cases this
  | a :: l, n, 0, w, h => h
  | a :: l, n, i + 1, w, h => znth_app l n i w h
theorem zpad_Lo {ad : Nat → Nat → Nat} {n : Nat} {as : List zV} {lsM : Array Slot} (hle : (zexp as).length ≤ n) (h : lv_has lsM n (lv_args 0 (as.map (zvl ad)))) : zLo ad n lsM (zpad n (zexp as)) := by
  refine ⟨by unfold zpad; rw [List.length_append, List.length_replicate]; omega, h.1, h.2.1, fun q hq => ?_⟩
  obtain ⟨j, w, h1, rfl⟩ := zll_of ad _ 0 q hq
  exact h.2.2 _ (zexp_args ad as 0 j w (znth_app _ _ _ _ h1))
theorem zexp_ok {Γ : zG} : ∀ (as : List zV), zso Γ as → ∀ i v, znth (zexp as) i = some v → zvk Γ v
  | [], _, _, _, h => by cases h
  | .inl a :: r, hs, 0, v, h => by cases h; exact zso_h hs
  | .inl a :: r, hs, i + 1, v, h => zexp_ok r (zso_t hs) i v h
  | .inr (.inr q) :: r, hs, 0, v, h => by cases h; exact zso_h hs
  | .inr (.inr q) :: r, hs, i + 1, v, h => zexp_ok r (zso_t hs) i v h
  | .inr (.inl a) :: r, hs, 0, v, h => by cases h; exact zso_h hs
  | .inr (.inl a) :: r, hs, 1, v, h => by cases h
  | .inr (.inl a) :: r, hs, i + 2, v, h => zexp_ok r (zso_t hs) i v h
theorem zpad_lo {Γ : zG} {n : Nat} {as : List zV} (hs : zso Γ as) : zlo Γ (zpad n (zexp as)) := fun i v h => zexp_ok as hs i v (znth_app _ _ _ _ h)
theorem zswt_at {go : Int → Prop} {x : Int} : ∀ (os : List Int) (j : Int), zswt go x j os → ∀ (k : Nat) (o : Int), os[k]? = some o → x = j + k → go o
  | [], _, _, _, _, h, _ => by simp at h
  | a :: r, j, q, 0, o, h, e => by
    have h2 : a = o := by simpa using h
    subst h2
    exact q.1 (by omega)
  | a :: r, j, q, k + 1, o, h, e => zswt_at r (j + 1) q.2 k o (by simpa using h) (by push_cast at e; omega)
theorem zlks_at {go : Int → Prop} {x d : Int} : ∀ (ps : List (Int × Int)), zlks go x d ps → go (Op.lookupswitch.offset ps d x)
  | [], q => q
  | (k, o) :: r, q => by
    rw [Op.lookupswitch.offset_cons]
    by_cases h : k = x
    · rw [if_pos h]; exact q.1 h.symm
    · rw [if_neg h]; exact zlks_at r (q.2 fun e => h e.symm)
def zws (f : Nat) : List Cond := .code (zy f) (zby f) (zml f) (zrf f) :: zlg
def zrm (d : Nat) : Room := { frames := d, cells := 0, slots := 0, locals := 36 * d }
theorem zlg_good {w : Cond} (h : w ∈ zlg) : goodWord w = true := (List.mem_filter.mp h).2
theorem zln_form {w : Cond} (h : w ∈ zln) : ∃ a i b n d q, w = .fieldLinkNest a i b n d q := by
  have h2 := (List.mem_filter.mp h).2
  split at h2
  · exact ⟨_, _, _, _, _, _, rfl⟩
  · cases h2
theorem zchf_iv {f : Nat} {ps : List Nat} (h : zchf f ps = true) : Cond.code (zy f) (zby f) (zml f) (zrf f) ∈ zlg ∧ (Cond.static (zy f) ∈ zlg ∨ (Cond.instanceMethod (zy f) ∈ zlg ∧ Cond.selects (zy f).cls (zy f) (zy f) ∈ zlg)) ∧ Cond.initialized (zy f).cls ∈ zlg ∧ zml f ≤ 17 ∧ plainName (zy f).cls = true ∧ ((zy f).cls ≠ "java/lang/invoke/MethodHandle" ∧ (zy f).cls ≠ "java/lang/invoke/VarHandle") ∧ ((zmk f = 0 → zrf f = none) ∧ (zmk f = 1 → zrf f = some .int) ∧ (zmk f = 2 → zrf f = some .boolean)) := by
  unfold zchf at h
  split at h
  · next a b c d =>
    simp only [Bool.and_eq_true, decide_eq_true_eq] at h
    obtain ⟨⟨⟨⟨⟨⟨h1, h2⟩, h3⟩, h4⟩, h5⟩, h6⟩, h7⟩ := h
    refine ⟨zat_in h1, ?_, zat_in h3, h4, h5, h6, h7⟩
    split at h2
    · exact Or.inl (zat_in h2)
    · rw [Bool.and_eq_true] at h2
      exact Or.inr ⟨zat_in h2.1, zat_in h2.2⟩
  · cases h
theorem zmk_4 : ∀ f, f < 243 → zmk f = 4 → ∃ n, zrf f = some (.object n) := by
  have h : ∀ f, f < 243 → zmk f = 4 → (match zrf f with | some (.object _) => true | _ => false) = true := by decide +kernel
  intro f h1 h2
  have h3 := h f h1 h2
  split at h3
  · next n hn => exact ⟨n, hn⟩
  · cases h3
/-- how a method ends -/
def zRet (m : Nat) (v : Option zV) (pc : Nat) : Prop := match zmk m with
  | 0 => v = none ∧ decode (zby m) pc = .ok (.return_, 1)
  | 1 => ∃ x, v = some (zI x) ∧ decode (zby m) pc = .ok (.ireturn, 1)
  | 2 => ∃ x, v = some (zI x) ∧ (x = 0 ∨ x = 1) ∧ decode (zby m) pc = .ok (.ireturn, 1)
  | 4 => ∃ t i, v = some (zR t i) ∧ decode (zby m) pc = .ok (.areturn, 1)
  | _ => False
def zov (ad : Nat → Nat → Nat) (v : Option zV) : List Value := match v with
  | none => []
  | some w => [zvl ad w]
def zSX : zX := fun Γ d m es ls st μ Q => ∀ (p : Program) (l : Launch) (e : Env) (R : Room) (s : State) (mm : MethodId) (args : Array Value) (below : List Frame) (meth : Method) (c : Code) (ad : Nat → Nat → Nat) (dC : Nat → ClassId) (dI : Nat → Nat → Nat) (tyI tyZ tyL : ClassId) (A : Nat → Prop) (b cells slots : Nat) (Qm : State → Prop) (pc : Nat) (H : Heap) (locs : List Loc) (lsM : Array Slot),
  zCx p R s mm args c ad dC dI tyI tyZ tyL A b Γ d m cells slots → es <:+ zcode m → zhd es pc → zHp s ad dC dI tyI tyZ tyL A μ H locs → zLo ad (zml m) lsM ls → zso Γ st → zlo Γ ls →
  (∀ (v : Option zV) (μ' : zM) (pc' : Nat) (H' : Heap) (locs' : List Loc) (lsM' : Array Slot), Q v μ' → zHp s ad dC dI tyI tyZ tyL A μ' H' locs' → (∀ w, v = some w → zvk Γ w) → zRet m v pc' → W p l e R s mm args below meth c H' locs' cells slots Qm (F0 mm pc' lsM' (zov ad v))) →
  W p l e R s mm args below meth c H locs cells slots Qm (F0 mm pc lsM (st.map (zvl ad)))
/-- a world at the end of a call -/
def zBw (ad : Nat → Nat → Nat) (dC : Nat → ClassId) (dI : Nat → Nat → Nat) (tyI tyZ tyL : ClassId) (A : Nat → Prop) (μ : zM) (t : State) : Prop := va_P (dC, dI) vwCl (zwd ad tyI tyZ tyL μ) t.heap ∧ va_K (dC, dI) vwCl (zts tyI tyZ tyL) t ∧ va_D A (zwd ad tyI tyZ tyL μ)
def zPc (ad : Nat → Nat → Nat) (dC : Nat → ClassId) (dI : Nat → Nat → Nat) (tyI tyZ tyL : ClassId) (sz : Nat) (μ : zM) (as : List zV) : Array Value → State → Prop := va_Pc (as.map (zvl ad)) (fun U => U.heap.size = sz ∧ va_P (dC, dI) vwCl (zwd ad tyI tyZ tyL μ) U.heap ∧ va_K (dC, dI) vwCl (zts tyI tyZ tyL) U ∧ va_D (fun _ => True) (zwd ad tyI tyZ tyL μ) ∧ ∀ w ∈ zln, va_Nw w U)
theorem zPc_blind {ad : Nat → Nat → Nat} {dC : Nat → ClassId} {dI : Nat → Nat → Nat} {tyI tyZ tyL : ClassId} {sz : Nat} {μ : zM} {as : List zV} : FrameBlind (zPc ad dC dI tyI tyZ tyL sz μ as) := by
  intro a U g mk q
  obtain ⟨q0, q1, q2, q3, q4, q5⟩ := q
  refine ⟨q0, q1, q2, va_K.moved (u := U) (U := U.calling g mk a) (Vm.Alike.refl U.vm) q3, q4, fun w hw => ?_⟩
  obtain ⟨a1, i1, b1, n1, d1, h1, rfl⟩ := zln_form hw
  exact va_Nw.same rfl (U := U.calling g mk a) rfl (q5 _ hw)
/-- the start of a method's walk -/
theorem zmet {f d : Nat} (hf : zprim f = false) (hf2 : f < 243) {as : List zV} {μ : zM} {K : zQ} (hX : zSX none d f (zcode f) (zpad (zml f) (zexp as)) [] μ K) (l : Launch) (ad : Nat → Nat → Nat) (dC : Nat → ClassId) (dI : Nat → Nat → Nat) (tyI tyZ tyL : ClassId) (has : zso none as) (hlen : (zexp as).length ≤ zml f) (hmo : zmo μ) (sz : Nat) (Qc : Array Value → State → Outcome → State → Prop)
    (hret : ∀ (p : Program) (e : Env) (s : State) (m : MethodId) (below : List Frame) (meth : Method) (c : Code) (v : Option zV) (μ' : zM) (pc' : Nat) (H' : Heap) (locs' : List Loc) (lsM' : Array Slot), p.tables.exec = Jvm.exec → c.code = zby f → meth.sig.returnType = zrf f → meth.locks = false → s.heap.size = sz → va_K (dC, dI) vwCl (zts tyI tyZ tyL) s → K v μ' → zHp s ad dC dI tyI tyZ tyL (va_A (zwd ad tyI tyZ tyL μ) sz) μ' H' locs' → (∀ w, v = some w → zvk none w) → zRet f v pc' →
      W p l e (zrm d) s m (as.map (zvl ad)).toArray below meth c H' locs' 0 0 (MQ below Qc (as.map (zvl ad)).toArray s 0 0 (va_A (zwd ad tyI tyZ tyL μ) sz)) (F0 m pc' lsM' (zov ad v))) :
    Met l (zy f) (zws f) (zrm d) (zPc ad dC dI tyI tyZ tyL sz μ as) Qc 0 0 (va_A (zwd ad tyI tyZ tyL μ) sz) := by
  obtain ⟨ps, hps⟩ := zf_ok hf hf2
  obtain ⟨hc, hst, hin, hm17, hpl, hmh, hrk⟩ := zchf_iv hps
  refine Met.ofW (cc := zby f) (maxL := zml f) (ret := zrf f) hpl rfl ?_
  intro p e s m args below meth c s₁ B hml hv
  obtain ⟨rfl, hsz, hP, hK, hD0, hN⟩ := hv
  have hts := atoms_spec (ws := zws f) B.pre
  have hown : s.vm.findClass (zy f).cls = some m.cls := findClass_of_methodNamed B.named
  subst hsz
  have hD := hD0.self (sz := s.heap.size)
  have hl := lv_entry (as.map (zvl ad)) (n := zml f) (by rw [zexp_len]; exact hlen)
  rw [lg_entry_eq]
  have h0 : 0 < f := by
    cases f with
    | zero => cases hf
    | succ f => omega
  have hE := zE_all (m := f) h0 (by omega)
  have hhd : zhd (zcode f) 0 := by
    have h3 := hE.2.2
    unfold zhd
    split at h3
    · next e r he => rw [he]; exact h3
    · cases h3
  refine hX p l e (zrm d) s m _ below meth c ad dC dI tyI tyZ tyL (va_A (zwd ad tyI tyZ tyL μ) s.heap.size) 0 0 0 _ 0 _ _ _ ⟨⟨B.exec, B.bytes, hml, hown⟩, ⟨fun w hw => hts w (List.mem_cons_of_mem _ hw), hN⟩, hK, fun q h => Or.inr h, ⟨Nat.le_refl _, Nat.le_refl _, Nat.le_refl _, Nat.le_refl _⟩, hE, trivial⟩ (List.suffix_refl _) hhd ⟨hP, hD, va_S.rf, hmo⟩ (zpad_Lo hlen hl) (fun _ h => by cases h) (zpad_lo has) ?_
  intro v μ' pc' H' locs' lsM' hQ hh' hvk hr
  exact hret p e s m below meth c v μ' pc' H' locs' lsM' B.exec B.bytes B.returns B.notSynchronized rfl hK hQ hh' hvk hr
