/-! SOUNDNESS: every step, and so all -/
def zisl : List Nat := [0, 0, 0, 0, 0, 0, 0, 0, 0, 1, 1, 1, 1, 1, 1, 1, 1, 1, 1, 1, 1, 1, 1, 1, 1, 1, 1, 1, 1, 1, 1, 1, 1, 1, 1, 1, 1, 1, 1, 1, 1, 1, 1, 1, 1, 1, 1, 1, 1, 1, 1, 1, 1, 1, 1, 0, 0, 0, 0, 0, 0, 0, 1, 1, 1, 1, 1, 1, 1, 1, 1, 1, 1, 1, 1, 1, 1, 1, 1, 1, 1, 1, 1, 0, 1, 0, 0, 0, 0, 0, 0, 0, 0, 0, 0, 0, 0, 0, 0, 0, 0, 0, 0, 1, 1, 1, 1, 1, 1, 1, 1, 1, 1, 1, 1, 1, 1, 1, 1, 1, 1, 1, 1, 1, 1, 1, 1, 1, 1, 1, 1, 1, 1, 1, 1, 1, 1, 1, 1, 1, 1, 1, 1, 1, 1, 1, 1, 1, 1, 1, 1, 1, 1, 0, 1, 1, 1, 1, 1, 1, 0, 0, 0, 0, 0, 1, 1, 1, 1, 1, 1, 1, 1, 1, 1, 1, 1, 1, 1, 1, 1, 1, 1, 1, 1, 1, 1, 1, 1, 1, 1, 1, 1, 1, 1, 1, 1, 1, 1, 0, 1, 1, 1, 1, 1, 1, 1, 1, 1, 1, 1, 1, 1, 1, 1, 1, 1, 1, 1, 1, 1, 1, 1, 1, 1, 1, 1, 1, 1, 1, 1, 1, 1, 1, 1, 1, 1, 1, 1, 1, 1, 1, 1, 2]
/-- 1: a method of an object, 0: a static one -/
def zis (f : Nat) : Nat := zgd zisl f 0
theorem zis_p : ((zFP_0 ++ (zFP_1 ++ (zFP_2 ++ (zFP_3 ++ (zFP_4 ++ (zFP_5)))))).all fun q => decide ((zis q.1 = 0 ∧ zgd q.2 2 0 = 9999) ∨ (zis q.1 = 1 ∧ zgd q.2 2 0 ≠ 9999))) = true := by decide +kernel
def zisB (i : Instr) (a : Nat) : Bool := match i with
  | .invokevirtual _ => decide (zis a = 1)
  | .invokestatic _ => zprim a || decide (zis a = 0)
  | _ => true
theorem zis_c : (zCT.all fun c => c.all fun e => zisB e.2.2.1 e.2.2.2.1) = true := by decide +kernel
theorem zf_ok2 {f : Nat} (h0 : zprim f = false) (h : f < 243) : ∃ ps, zchf f ps = true ∧ ((zis f = 0 ∧ Cond.static (zy f) ∈ zlg) ∨ (zis f = 1 ∧ Cond.instanceMethod (zy f) ∈ zlg ∧ Cond.selects (zy f).cls (zy f) (zy f) ∈ zlg)) := by
  have h1 := List.any_eq_true.mp (zFP_in f h h0)
  obtain ⟨q, hq, he⟩ := h1
  have e : q.1 = f := of_decide_eq_true he
  have h2 := zFP_all q hq
  have h3 := List.all_eq_true.mp zis_p q hq
  rw [e] at h2
  simp only [decide_eq_true_eq] at h3
  rw [e] at h3
  refine ⟨q.2, h2, ?_⟩
  obtain ⟨f', ps⟩ := q
  dsimp only at h2 h3
  unfold zchf at h2
  split at h2
  · next a b c d =>
    simp only [Bool.and_eq_true] at h2
    obtain ⟨⟨⟨⟨⟨⟨g1, g2⟩, g3⟩, g4⟩, g5⟩, g6⟩, g7⟩ := h2
    rcases h3 with ⟨i1, i2⟩ | ⟨i1, i2⟩
    · refine Or.inl ⟨i1, ?_⟩
      have : c = 9999 := i2
      rw [if_pos this] at g2
      exact zat_in g2
    · refine Or.inr ⟨i1, ?_⟩
      have : c ≠ 9999 := i2
      rw [if_neg this, Bool.and_eq_true] at g2
      exact ⟨zat_in g2.1, zat_in g2.2⟩
  · cases h2
section
variable {p : Program} {l : Launch} {e : Env} {R : Room} {s : State} {mm : MethodId} {args : Array Value} {below : List Frame} {meth : Method} {c : Code}
variable {ad : Nat → Nat → Nat} {dC : Nat → ClassId} {dI : Nat → Nat → Nat} {tyI tyZ tyL : ClassId} {A : Nat → Prop} {b : Nat} {Γ : zG} {d m cells slots : Nat} {Qm : State → Prop}
theorem zdesc {y : MethodName} {n : Nat} (h : (parseMethodDescriptor y.desc).map (fun d => d.parameters.length + 1) = some (n + 1)) : (parseMethodDescriptor y.desc).map (fun d => d.parameters.length) = some n := by
  cases hq : parseMethodDescriptor y.desc with
  | none => rw [hq] at h; cases h
  | some sg =>
    rw [hq] at h
    have h2 : sg.parameters.length + 1 = n + 1 := Option.some.inj h
    exact congrArg some (show sg.parameters.length = n by omega)
set_option maxHeartbeats 4000000 in
theorem zcx_ok (C : zCx p R s mm args c ad dC dI tyI tyZ tyL A b Γ d m cells slots) {ins : Instr} {a b' pc len pos f : Nat} {k : Int} {as r : List zV} {st : List zV} {μ : zM} {nx : List zV → zM → Prop} (hdg : decode (zby m) pc = .ok (ins, len)) (hil : zil ins = 0 ∨ len = zil ins) (hlk : zlk (zy m).cls (pc, len, ins, a, b', k) pos = true)
    (hisc : zisB ins a = true) (heq : zcx zak Γ ins a b' k st = some (f, as, r))
    {H : Heap} {locs : List Loc} {lsM : Array Slot} {ls : List (Option zV)} (hh : zHp s ad dC dI tyI tyZ tyL A μ H locs) (hl : zLo ad (zml m) lsM ls) (hs : zso Γ st) (hX : zcall zSX d f as μ (zQm f nx))
    (kk : ∀ v μ' H' locs', nx v μ' → zHp s ad dC dI tyI tyZ tyL A μ' H' locs' → zso none v → W p l e R s mm args below meth c H' locs' cells slots Qm (F0 mm (pc + len) lsM ((v ++ r).map (zvl ad)))) : W p l e R s mm args below meth c H locs cells slots Qm (F0 mm pc lsM (st.map (zvl ad))) := by
  obtain ⟨⟨hx, hb, hml, hown⟩, ⟨hts, hnw⟩, hK, hA, ⟨hR1, hR2, hR3, hR4⟩, hE, hG⟩ := C
  have hh0 := hh
  obtain ⟨hP, hD, hS, hmo⟩ := hh0
  unfold zcall at hX
  cases d with
  | zero => exact hX.elim
  | succ d' =>
    dsimp only at hX
    cases hble : Nat.ble (zexp as).length (zml f) with
    | false => rw [hble] at hX; exact hX.elim
    | true =>
      rw [hble] at hX
      have hlen : (zexp as).length ≤ zml f := Nat.le_of_ble_eq_true hble
      unfold zcx at heq
      split at heq
      · next ix =>
        obtain rfl : len = 3 := by simpa [zil] using hil
        split at heq
        · cases heq
        · next hp =>
          have hp : zprim a = false := by simpa using hp
          split at heq
          · next t j vs r' htk =>
            split at heq
            · next htc =>
              split at heq
              · next hz8 =>
                split at heq
                · next hcl =>
                  cases heq
                  obtain ⟨xs, h1, h2, h3⟩ := ztake_iv _ _ _ _ _ htk
                  rw [List.append_nil] at h2
                  have hst : st = (zR t j :: vs).reverse ++ r := by rw [h2, List.reverse_reverse]; exact h1
                  have hs1 : zso Γ (zR t j :: vs) := fun w hw => hs w (by rw [hst]; exact List.mem_append_left _ (List.mem_reverse.mpr hw))
                  have hs2 := zso_none hcl hs1
                  simp only [zlk, Bool.and_eq_true, decide_eq_true_eq] at hlk
                  obtain ⟨⟨⟨k1, k2⟩, k3⟩, k4⟩ := hlk
                  have k2' : a < 244 := Nat.lt_of_lt_of_le k2 (show zYL.length ≤ 244 by decide +kernel)
                  have ha : a < 243 := by
                    rcases Nat.lt_or_ge a 243 with q | q
                    · exact q
                    · have : a = 243 := by omega
                      subst this
                      exact absurd (show decide (zis 243 = 1) = true from hisc) (by decide +kernel)
                  obtain ⟨ps, hps, hii⟩ := zf_ok2 hp ha
                  have hi : Cond.instanceMethod (zy a) ∈ zlg ∧ Cond.selects (zy a).cls (zy a) (zy a) ∈ zlg := by
                    simp only [zisB, decide_eq_true_eq] at hisc
                    rcases hii with ⟨q, -⟩ | ⟨-, q⟩
                    · omega
                    · exact q
                  obtain ⟨hcw, -, hin, hm17, hpl, hmh, -⟩ := zchf_iv hps
                  have hG := zGi a hps (zat_in k1) hi
                  have hb1 : b' = vs.length + 1 := by
                    have : (zR t j :: vs).length = b' := by rw [h2, List.length_reverse]; exact h3
                    rw [← this]; rfl
                  rw [hb1] at k4
                  have ht0 : 0 < t ∧ t < 10 := by
                    have h5 : ∀ t, t < 44 → 0 < zcn t → zTn t ≠ "" → 0 < t ∧ t < 10 := by decide +kernel
                    have hj : j < zcn t := by
                      rcases zso_h hs2 with q | q
                      · exact q
                      · exact absurd q.2.2 (by simp)
                    refine h5 t (zcn_lt hj) (by omega) ?_
                    have e : k.toNat = t := by omega
                    rw [e] at k3
                    rw [← k3]
                    have h6 : ∀ a, a < 243 → (zy a).cls ≠ "" := by decide +kernel
                    exact h6 a ha
                  have hj : j < zcn t := zvk_of (zso_h hs2) ht0.1
                  have ho : zak t = 0 := by
                    have h7 : ∀ t, t < 10 → 0 < t → zak t = 0 := by decide +kernel
                    exact h7 t ht0.2 ht0.1
                  obtain ⟨g1, -⟩ := zTg_all t ht0.1 ht0.2
                  obtain ⟨q0, hq1, hq2⟩ := zob_at (ad := ad) (tyI := tyI) (tyZ := tyZ) (tyL := tyL) (μ := μ) hj ho
                  have hrecv := va_recv hK hP g1 hq2
                  have e : k.toNat = t := by omega
                  rw [e] at k3
                  refine zcall_end (st := st.map (zvl ad)) hp ha hX hs2 hlen hh hA (fun Qc hM => ?_) kk
                  refine va_runV (As := vs.map (zvl ad)) (rest := r.map (zvl ad)) (b := ad t j) ⟨hx, hb, hml, hown, hts⟩ hM (cwV vs.length hts hG rfl rfl rfl ⟨rfl, hmh.1, hmh.2, zdesc k4⟩ ⟨by show d' + 1 ≤ R.frames; exact hR1, by show 8 + (zml a + 11) + 36 * d' ≤ R.locals; omega⟩) ⟨zPc_blind, by rw [k3]; exact hrecv, fun U hU hW => ⟨rfl, by rw [hU], by rw [hU]; exact hP, va_K.moved hW.alike hK, hD.weaken (fun _ _ _ _ => trivial), zNw_warm hW hnw⟩⟩ rfl (by simp) hl.2.1 ?_ (lv_room (by rw [zsum_ok]; exact hz8)) hdg ⟨hR3, hR4⟩
                  show st.map (zvl ad) = _
                  rw [hst]
                  simp [zvl]
                · cases heq
              · cases heq
            · cases heq
          · cases heq
      · next ix =>
        obtain rfl : len = 3 := by simpa [zil] using hil
        split at heq
        · cases heq
        · next hp =>
          have hp : zprim a = false := by simpa using hp
          split at heq
          · next vs r' htk =>
            split at heq
            · next hz8 =>
              split at heq
              · next hcl =>
                cases heq
                obtain ⟨xs, h1, h2, h3⟩ := ztake_iv _ _ _ _ _ htk
                rw [List.append_nil] at h2
                have hst : st = as.reverse ++ r := by rw [h2, List.reverse_reverse]; exact h1
                have hs1 : zso Γ as := fun w hw => hs w (by rw [hst]; exact List.mem_append_left _ (List.mem_reverse.mpr hw))
                have hs2 := zso_none hcl hs1
                have ha0 : a ≠ 0 := by
                  rintro rfl
                  cases hp
                simp only [zlk, if_neg ha0, Bool.and_eq_true, decide_eq_true_eq] at hlk
                obtain ⟨⟨k1, k2⟩, k4⟩ := hlk
                have k2' : a < 244 := Nat.lt_of_lt_of_le k2 (show zYL.length ≤ 244 by decide +kernel)
                have ha : a < 243 := by
                  rcases Nat.lt_or_ge a 243 with q | q
                  · exact q
                  · have h8 : a = 243 := by omega
                    subst h8
                    exact absurd (show (zprim 243 || decide (zis 243 = 0)) = true from hisc) (by decide +kernel)
                obtain ⟨ps, hps, hii⟩ := zf_ok2 hp ha
                have hi : Cond.static (zy a) ∈ zlg := by
                  simp only [zisB, hp, Bool.false_or, decide_eq_true_eq] at hisc
                  rcases hii with ⟨-, q⟩ | ⟨q, -⟩
                  · exact q
                  · omega
                obtain ⟨hcw, -, hin, hm17, hpl, hmh, -⟩ := zchf_iv hps
                have hG := zGs a hps (zat_in k1) hi
                have hb1 : b' = as.length := by rw [h2, List.length_reverse]; exact h3.symm
                rw [hb1] at k4
                refine zcall_end (st := st.map (zvl ad)) hp ha hX hs2 hlen hh hA (fun Qc hM => ?_) kk
                refine va_runS (As := as.map (zvl ad)) (rest := r.map (zvl ad)) ⟨hx, hb, hml, hown, hts⟩ hM (va_cwS as.length hts hG rfl rfl rfl ⟨hmh.1, hmh.2, k4⟩ ⟨by show d' + 1 ≤ R.frames; exact hR1, by show 8 + (zml a + 11) + 36 * d' ≤ R.locals; omega⟩) ⟨zPc_blind, fun U hU hW => ⟨rfl, by rw [hU], by rw [hU]; exact hP, va_K.moved hW.alike hK, hD.weaken (fun _ _ _ _ => trivial), zNw_warm hW hnw⟩⟩ rfl (by simp) hl.2.1 ?_ (lv_room (by rw [zsum_ok]; exact hz8)) hdg ⟨hR3, hR4⟩
                show st.map (zvl ad) = _
                rw [hst]
                simp
              · cases heq
            · cases heq
          · cases heq
      · cases heq
end
