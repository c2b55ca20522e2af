/-! THE CONSTRUCTORS: what a call of one asks and gives -/
def zkPc (dC : Nat → ClassId) (dI : Nat → Nat → Nat) (tyI tyZ tyL : ClassId) (sz t h0 : Nat) (as : List Value) : Array Value → State → Prop := va_Pc (.ref h0 :: as) (fun U => U.heap.size = sz ∧ va_P (dC, dI) vwCl [(h0, .inr (zci t, zdf t))] U.heap ∧ va_K (dC, dI) vwCl (zts tyI tyZ tyL) U ∧ zNm U)
theorem zNm_call {U : State} {g : JFrame} {mk : MethodId} {a : Array Value} (h : zNm U) : zNm (U.calling g mk a) := by
  refine ⟨fun w hw => ?_, va_AO.moved (u := U) (U := U.calling g mk a) (Vm.Alike.refl U.vm) h.2⟩
  obtain ⟨a1, i1, y1, b1, rfl⟩ := zlm_form hw
  exact va_Nw.same rfl (U := U.calling g mk a) rfl (h.1 _ hw)
theorem zNm_warm {s U : State} (hW : s.WarmedH U.vm) (h : zNm s) : zNm U := by
  refine ⟨fun w hw => ?_, va_AO.moved hW.alike h.2⟩
  obtain ⟨a1, i1, y1, b1, rfl⟩ := zlm_form hw
  exact va_Nw.warmM hW (h.1 _ hw)
theorem zkPc_blind {dC : Nat → ClassId} {dI : Nat → Nat → Nat} {tyI tyZ tyL : ClassId} {sz t h0 : Nat} {as : List Value} : FrameBlind (zkPc dC dI tyI tyZ tyL sz t h0 as) := by
  intro a U g mk q
  obtain ⟨q0, q1, q2, q3, q4⟩ := q
  exact ⟨q0, q1, q2, va_K.moved (u := U) (U := U.calling g mk a) (Vm.Alike.refl U.vm) q3, zNm_call q4⟩
/-- a constructor, in its room: of what it is given alone (a new object h0 of kind t) it makes a world of PW -/
def zkMt (l : Launch) (y : MethodName) (cc : ByteArray) (nL fr mc ms t : Nat) (as : List Value) (PW : ClassId → ClassId → ClassId → Nat → va_W → Prop) : Prop :=
  ∀ (dC : Nat → ClassId) (dI : Nat → Nat → Nat) (tyI tyZ tyL : ClassId) (h0 sz : Nat), Met l y (.code y cc nL none :: zlg) { frames := fr, cells := mc, slots := ms, locals := 36 * fr } (zkPc dC dI tyI tyZ tyL sz t h0 as) (va_Qv (PW tyI tyZ tyL h0) (fun u U => va_P (dC, dI) vwCl u U.heap ∧ va_D (va_A [(h0, .inr (zci t, zdf t))] sz) u) (va_A [(h0, .inr (zci t, zdf t))] sz)) mc ms (va_A [(h0, .inr (zci t, zdf t))] sz)
theorem zkD_one {A : Nat → Prop} {x : Nat × va_E} (h : A x.1) : va_D A [x] := by
  refine ⟨fun i j p q hp hq _ => ?_, fun k q hq => ?_⟩
  · have h1 : i < 1 := (List.getElem?_eq_some_iff.mp hp).1
    have h2 : j < 1 := (List.getElem?_eq_some_iff.mp hq).1
    omega
  · have h1 : k < 1 := (List.getElem?_eq_some_iff.mp hq).1
    rw [show k = 0 by omega] at hq
    cases hq
    exact h
theorem zk_met {l : Launch} {y : MethodName} {cc : ByteArray} {nL fr mc ms t : Nat} {as : List Value} {PW : ClassId → ClassId → ClassId → Nat → va_W → Prop} (hpl : plainName y.cls = true) (hcls : y.cls = zTn t) (hnm : y.name = "<init>") (hlen : ∀ h0, (lg_sl (.ref h0 :: as)).length ≤ nL)
    (body : ∀ (p : Program) (e : Env) (s : State) (m : MethodId) (args : Array Value) (below : List Frame) (meth : Method) (c : Code) (dC : Nat → ClassId) (dI : Nat → Nat → Nat) (tyI tyZ tyL : ClassId) (A : Nat → Prop) (h0 : Nat) (ls : Array Slot) (Q : State → Prop), zkKx p s m args c dC dI tyI tyZ tyL (zTn t) cc nL A → meth.name = "<init>" → lv_has ls nL (lv_args 0 (.ref h0 :: as)) → zkKh s dC dI A [(h0, .inr (zci t, zdf t))] s.heap [] →
      (∀ (u : va_W) (pc' : Nat) (H' : Heap) (locs' : List Loc) (ls' : Array Slot), PW tyI tyZ tyL h0 u → zkKh s dC dI A u H' locs' → decode cc pc' = .ok (.return_, 1) → W p l e { frames := fr, cells := mc, slots := ms, locals := 36 * fr } s m args below meth c H' locs' mc ms Q (F0 m pc' ls' [])) →
      W p l e { frames := fr, cells := mc, slots := ms, locals := 36 * fr } s m args below meth c s.heap [] 0 0 Q (F0 m 0 ls [])) : zkMt l y cc nL fr mc ms t as PW := by
  intro dC dI tyI tyZ tyL h0 sz
  refine Met.ofW (cc := cc) (maxL := nL) (ret := none) hpl rfl ?_
  intro p e s m args below meth c s₁ B hml hv
  obtain ⟨rfl, hsz, hP, hK, hN⟩ := hv
  have hts := atoms_spec (ws := .code y cc nL none :: zlg) B.pre
  have hown : s.vm.findClass (zTn t) = some m.cls := by rw [← hcls]; exact findClass_of_methodNamed B.named
  have hin : meth.name = "<init>" := (name_of_methodNamed B.named B.method).1.trans hnm
  have hlocks := B.notSynchronized
  subst hsz
  have hl := lv_entry (.ref h0 :: as) (n := nL) (hlen h0)
  rw [lg_entry_eq]
  refine body p e s m _ below meth c dC dI tyI tyZ tyL (va_A [(h0, .inr (zci t, zdf t))] s.heap.size) h0 _ _ ⟨⟨B.exec, B.bytes, hml, hown⟩, ⟨fun w hw => hts w (List.mem_cons_of_mem _ hw), hN⟩, hK, fun q h => Or.inr h⟩ hin hl ⟨hP, zkD_one (Or.inl ⟨0, .inr (zci t, zdf t), rfl⟩), va_S.rf⟩ ?_
  intro u pc' H' locs' ls' hw hh hdec
  obtain ⟨hP', hD', hS'⟩ := hh
  exact W.vret B.exec B.bytes B.returns (fun U ht hW => ⟨⟨u, rfl, hw, by rw [ht]; exact hP', hD'⟩, hS'.F ht⟩) hS'.2.2 hdec
theorem zkjoin {A0 : Nat → Prop} {D : va_G} {cl : List vw_C} {wr wc w1 : va_W} {H H1 : Heap} (hP : va_P D cl (wr ++ wc) H) (hD : va_D A0 (wr ++ wc)) (hk : ∀ q : Nat, q < H.size → ¬ va_A wc H.size q → H1[q]? = H[q]?) (hF : ∀ q, va_A wc H.size q → A0 q) (hP1 : va_P D cl w1 H1) (hD1 : va_D (va_A wc H.size) w1) : va_P D cl (wr ++ w1) H1 ∧ va_D A0 (wr ++ w1) := by
  have gl : ∀ (k : Nat) (q : Nat × va_E), wr[k]? = some q → k < wr.length ∧ (wr ++ wc)[k]? = some q := fun k q h => by
    have hl := (List.getElem?_eq_some_iff.mp h).1
    exact ⟨hl, by rw [List.getElem?_append_left hl]; exact h⟩
  have gr : ∀ (k : Nat) (q : Nat × va_E), wc[k]? = some q → (wr ++ wc)[wr.length + k]? = some q := fun k q h => by
    rw [List.getElem?_append_right (by omega), Nat.add_sub_cancel_left]
    exact h
  have apart : ∀ (k : Nat) (q : Nat × va_E), wr[k]? = some q → q.1 < H.size ∧ ¬ va_A wc H.size q.1 := by
    intro k q hq
    obtain ⟨hlt, h2⟩ := gl k q hq
    have hl := (hP k q h2).lt
    refine ⟨hl, fun h => ?_⟩
    rcases h with ⟨k2, e, h⟩ | h
    · have hij := hD.1 k (wr.length + k2) q (q.1, e) h2 (gr _ _ h) rfl
      omega
    · omega
  refine ⟨va_P.app (fun k q hq => ?_) hP1, va_D.app ⟨fun i j x y hx hy h => hD.1 i j x y (gl _ _ hx).2 (gl _ _ hy).2 h, fun k q h => hD.2 k q (gl _ _ h).2⟩ (hD1.weaken (fun k q _ h => hF q.1 h)) (fun i j x y hx hy hxy => ?_)⟩
  · obtain ⟨g1, g2⟩ := apart k q hq
    exact (hP k q (gl _ _ hq).2).kept (hk q.1 g1 g2)
  · exact (apart i x hx).2 (by rw [hxy]; exact hD1.2 j y hy)
section
variable {p : Program} {l : Launch} {e : Env} {R : Room} {s : State} {m : MethodId} {args : Array Value} {below : List Frame} {meth : Method} {c : Code} {H : Heap} {locs : List Loc} {cells slots : Nat} {Q : State → Prop}
variable {cc : ByteArray} {pc nL : Nat} {ls : Array Slot} {rest : List Value} {dC : Nat → ClassId} {dI : Nat → Nat → Nat} {tyI tyZ tyL : ClassId} {A : Nat → Prop} {ws : va_W} {own : String}
theorem zk_inv {y : MethodName} {bytes : ByteArray} {maxL fr mc ms t q ix : Nat} {as : List Value} {PW : ClassId → ClassId → ClassId → Nat → va_W → Prop} {wr : va_W} (X : zkKx p s m args c dC dI tyI tyZ tyL own cc nL A) (hM : zkMt l y bytes maxL fr mc ms t as PW) (hh : zkKh s dC dI A (wr ++ [(q, .inr (zci t, zdf t))]) H locs)
    (hlink : Cond.methodLink own ix y ∈ zlg ∨ Cond.methodLinkNest own ix y RX11 ∈ zlm) (hw : Cond.code y bytes maxL none ∈ zlg ∧ Cond.initialized y.cls ∈ zlg ∧ Cond.instanceMethod y ∈ zlg) (hnm : y.name = "<init>") (hd : y.cls ≠ "java/lang/invoke/MethodHandle" ∧ y.cls ≠ "java/lang/invoke/VarHandle" ∧ (parseMethodDescriptor y.desc).map (fun d => d.parameters.length) = some as.length)
    (hR : fr + 1 ≤ R.frames ∧ 8 + (maxL + 11) + 36 * fr ≤ R.locals) (hsz : ls.size = nL) (hrest : (rest.map fun v => v.category).sum ≤ 8) (hdg : decode cc pc = .ok (.invokespecial ix, 3)) (hr : cells + mc ≤ R.cells ∧ slots + ms ≤ R.slots)
    (kk : ∀ (u : va_W) (H1 : Heap) (locs1 : List Loc), PW tyI tyZ tyL q u → zkKh s dC dI A (wr ++ u) H1 locs1 → W p l e R s m args below meth c H1 locs1 (cells + mc) (slots + ms) Q (F0 m (pc + 3) ls rest)) : W p l e R s m args below meth c H locs cells slots Q (F0 m pc ls (as.reverse ++ .ref q :: rest)) := by
  obtain ⟨hP, hD, hS⟩ := hh
  have hPc : va_P (dC, dI) vwCl [(q, .inr (zci t, zdf t))] H := fun k x hx => by
    obtain ⟨i, hi⟩ := List.getElem?_of_mem (List.mem_append_right wr (List.mem_of_getElem? hx))
    exact hP i x hi
  have hFc : ∀ x, va_A [(q, .inr (zci t, zdf t))] H.size x → A x := by
    intro x h
    rcases h with ⟨k, e, h⟩ | h
    · obtain ⟨i, hi⟩ := List.getElem?_of_mem (List.mem_append_right wr (List.mem_of_getElem? h))
      exact hD.2 i (x, e) hi
    · exact X.2.2.2 x (Nat.le_trans hS.1 h)
  have hp : PreS s H (zkPc dC dI tyI tyZ tyL H.size t q as) (.ref q :: as) := ⟨zkPc_blind, fun U hU hW => ⟨rfl, by rw [hU], by rw [hU]; exact hPc, va_K.moved hW.alike X.2.2.1, zNm_warm hW X.2.1.2⟩⟩
  have hG : GoodIn zlg (.code y bytes maxL none :: zlg) := by
    intro w hw'
    have hm : w ∈ zlg := by
      rcases List.mem_cons.mp hw' with rfl | h
      · exact hw.1
      · exact h
    exact ⟨hm, good_of_word (zlg_good hm)⟩
  have run : va_Run p l e R s m args below meth c H locs cells slots mc ms (F0 m pc ls (as.reverse ++ .ref q :: rest)) rest (va_Qv (PW tyI tyZ tyL q) (fun u U => va_P (dC, dI) vwCl u U.heap ∧ va_D (va_A [(q, .inr (zci t, zdf t))] H.size) u) (va_A [(q, .inr (zci t, zdf t))] H.size) (Value.ref q :: as).toArray) (va_A [(q, .inr (zci t, zdf t))] H.size) := by
    rcases hlink with hl | hl
    · exact va_runI ⟨X.1.1, X.1.2.1, X.1.2.2.1, X.1.2.2.2, X.2.1.1⟩ (hM dC dI tyI tyZ tyL q H.size) (cwI as.length X.2.1.1 hG rfl rfl rfl (X.2.1.1 _ hw.2.1) (X.2.1.1 _ hl) (X.2.1.1 _ hw.2.2) hnm hd hR) hp rfl rfl hsz rfl (lv_room hrest) hdg hr
    · exact va_runIN ⟨X.1.1, X.1.2.1, X.1.2.2.1, X.1.2.2.2, X.2.1.1⟩ (hM dC dI tyI tyZ tyL q H.size) ⟨va_cnB as.length X.2.1.1 hG rfl rfl rfl (X.2.1.2.1 _ hl) (X.2.1.1 _ hw.2.1) hd hR, hnm, X.2.1.1 _ hw.2.2⟩ hp rfl rfl hsz rfl (lv_room hrest) hdg hr
  refine va_callv run hS (fun q _ h => hFc q h) hFc (fun u t H1 locs1 ht hvm hw1 hB hz1 hk1 hS1 => ?_)
  obtain ⟨hP1, hD1⟩ := hB
  rw [ht] at hP1
  obtain ⟨hP2, hD2⟩ := zkjoin hP hD hk1 hFc hP1 hD1
  exact kk u H1 locs1 hw1 ⟨hP2, hD2, hS1⟩
end
