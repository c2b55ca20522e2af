/-! SOUNDNESS of calls and of the whole -/
theorem zmet0 {f d : Nat} (hf : zprim f = false) (hf2 : f < 243) (hk : zmk f = 0) {as : List zV} {μ : zM} {K : zQ} (hX : zSX none d f (zcode f) (zpad (zml f) (zexp as)) [] μ K) (l : Launch) (ad : Nat → Nat → Nat) (dC : Nat → ClassId) (dI : Nat → Nat → Nat) (tyI tyZ tyL : ClassId) (has : zso none as) (hlen : (zexp as).length ≤ zml f) (hmo : zmo μ) (sz : Nat) :
    Met l (zy f) (zws f) (zrm d) (zPc ad dC dI tyI tyZ tyL sz μ as) (va_Qv (fun u : zM => K none u ∧ zmo u) (zBw ad dC dI tyI tyZ tyL (va_A (zwd ad tyI tyZ tyL μ) sz)) (va_A (zwd ad tyI tyZ tyL μ) sz)) 0 0 (va_A (zwd ad tyI tyZ tyL μ) sz) := by
  obtain ⟨ps, hps⟩ := zf_ok hf hf2
  obtain ⟨-, -, -, -, -, -, hrk⟩ := zchf_iv hps
  refine zmet hf hf2 hX l ad dC dI tyI tyZ tyL has hlen hmo sz _ ?_
  intro p e s m below meth c v μ' pc' H' locs' lsM' hx hb hr hlocks hsz hK hQ hh' hvk hrt
  unfold zRet at hrt
  rw [hk] at hrt
  obtain ⟨rfl, hdec⟩ := hrt
  obtain ⟨hP', hD', hS', hmo'⟩ := hh'
  exact W.vret hx hb (by rw [hr, hrk.1 hk]) (fun t ht hW => ⟨⟨μ', rfl, ⟨hQ, hmo'⟩, by rw [ht]; exact hP', va_K.moved hW.alike hK, hD'⟩, hS'.F ht⟩) hS'.2.2 hdec
theorem zmet1 {f d : Nat} (hf : zprim f = false) (hf2 : f < 243) (hk : zmk f = 1 ∨ zmk f = 2) {as : List zV} {μ : zM} {K : zQ} (hX : zSX none d f (zcode f) (zpad (zml f) (zexp as)) [] μ K) (l : Launch) (ad : Nat → Nat → Nat) (dC : Nat → ClassId) (dI : Nat → Nat → Nat) (tyI tyZ tyL : ClassId) (has : zso none as) (hlen : (zexp as).length ≤ zml f) (hmo : zmo μ) (sz : Nat) :
    Met l (zy f) (zws f) (zrm d) (zPc ad dC dI tyI tyZ tyL sz μ as) (va_Qi (fun (r : Int32) (u : Int × zM) => r = Int32.ofInt u.1 ∧ zin u.1 ∧ K (some (zI u.1)) u.2 ∧ zmo u.2) (fun u t => zBw ad dC dI tyI tyZ tyL (va_A (zwd ad tyI tyZ tyL μ) sz) u.2 t) (va_A (zwd ad tyI tyZ tyL μ) sz)) 0 0 (va_A (zwd ad tyI tyZ tyL μ) sz) := by
  obtain ⟨ps, hps⟩ := zf_ok hf hf2
  obtain ⟨-, -, -, -, -, -, hrk⟩ := zchf_iv hps
  refine zmet hf hf2 hX l ad dC dI tyI tyZ tyL has hlen hmo sz _ ?_
  intro p e s m below meth c v μ' pc' H' locs' lsM' hx hb hr hlocks hsz hK hQ hh' hvk hrt
  unfold zRet at hrt
  obtain ⟨hP', hD', hS', hmo'⟩ := hh'
  rcases hk with hk | hk
  · rw [hk] at hrt
    obtain ⟨x, rfl, hdec⟩ := hrt
    exact W.iret (v := Int32.ofInt x) hx hb (by rw [hr, hrk.2.1 hk]) (fun t ht hW => ⟨⟨_, (x, μ'), rfl, ⟨rfl, hvk _ rfl, hQ, hmo'⟩, by rw [ht]; exact hP', va_K.moved hW.alike hK, hD'⟩, hS'.F ht⟩) hS'.2.2 hdec
  · rw [hk] at hrt
    obtain ⟨x, rfl, h01, hdec⟩ := hrt
    exact W.zret (v := Int32.ofInt x) (ty := .boolean) hx hb (by rw [hr, hrk.2.2 hk]) (z_01 h01).1 (fun t ht hW => ⟨⟨_, (x, μ'), rfl, ⟨rfl, hvk _ rfl, hQ, hmo'⟩, by rw [ht]; exact hP', va_K.moved hW.alike hK, hD'⟩, hS'.F ht⟩) hS'.2.2 hdec
theorem zmet4 {f d : Nat} (hf : zprim f = false) (hf2 : f < 243) (hk : zmk f = 4) {as : List zV} {μ : zM} {K : zQ} (hX : zSX none d f (zcode f) (zpad (zml f) (zexp as)) [] μ K) (l : Launch) (ad : Nat → Nat → Nat) (dC : Nat → ClassId) (dI : Nat → Nat → Nat) (tyI tyZ tyL : ClassId) (has : zso none as) (hlen : (zexp as).length ≤ zml f) (hmo : zmo μ) (sz : Nat) :
    Met l (zy f) (zws f) (zrm d) (zPc ad dC dI tyI tyZ tyL sz μ as) (va_Qr (fun (u : (Nat × Nat) × zM) => zvk none (zR u.1.1 u.1.2) ∧ K (some (zR u.1.1 u.1.2)) u.2 ∧ zmo u.2) (fun u a t => a = ad u.1.1 u.1.2 ∧ zBw ad dC dI tyI tyZ tyL (va_A (zwd ad tyI tyZ tyL μ) sz) u.2 t) (va_A (zwd ad tyI tyZ tyL μ) sz)) 0 0 (va_A (zwd ad tyI tyZ tyL μ) sz) := by
  refine zmet hf hf2 hX l ad dC dI tyI tyZ tyL has hlen hmo sz _ ?_
  intro p e s m below meth c v μ' pc' H' locs' lsM' hx hb hr hlocks hsz hK hQ hh' hvk hrt
  unfold zRet at hrt
  obtain ⟨hP', hD', hS', hmo'⟩ := hh'
  obtain ⟨n, hn⟩ := zmk_4 f hf2 hk
  rw [hk] at hrt
  obtain ⟨t, i, rfl, hdec⟩ := hrt
  exact W.aret (v := .ref (ad t i)) (rt := .object n) hx hb (by rw [hr, hn]) (Or.inl ⟨n, rfl⟩) (Or.inr ⟨_, rfl⟩) (fun u ht hW => ⟨⟨((t, i), μ'), ad t i, rfl, ⟨hvk _ rfl, hQ, hmo'⟩, rfl, by rw [ht]; exact hP', va_K.moved hW.alike hK, hD'⟩, hS'.F ht⟩) hS'.2.2 hdec
section
variable {p : Program} {l : Launch} {e : Env} {R : Room} {s : State} {mm : MethodId} {args : Array Value} {below : List Frame} {meth : Method} {c : Code}
variable {ad : Nat → Nat → Nat} {dC : Nat → ClassId} {dI : Nat → Nat → Nat} {tyI tyZ tyL : ClassId} {A : Nat → Prop} {b : Nat} {Γ : zG} {d m cells slots : Nat} {Qm : State → Prop}
theorem zFr {H : Heap} {locs : List Loc} {μ : zM} (hD : va_D A (zwd ad tyI tyZ tyL μ)) (hS : va_S A s.heap H locs) (hA : ∀ q, s.heap.size ≤ q → A q) : ∀ q, va_A (zwd ad tyI tyZ tyL μ) H.size q → A q := by
  intro q h
  rcases h with ⟨k, e, h⟩ | h
  · exact hD.2 k (q, e) h
  · exact hA q (Nat.le_trans hS.1 h)
/-- what comes behind a call, by what the method answers -/
theorem zcall_end {f d' pc : Nat} {as r : List zV} {μ : zM} {nx : List zV → zM → Prop} {st : List Value} {H : Heap} {locs : List Loc} {lsM : Array Slot} (hf : zprim f = false) (hf2 : f < 243)
    (hX : zSX none d' f (zcode f) (zpad (zml f) (zexp as)) [] μ (zQm f nx)) (has : zso none as) (hlen : (zexp as).length ≤ zml f)
    (hh : zHp s ad dC dI tyI tyZ tyL A μ H locs) (hA : ∀ q, s.heap.size ≤ q → A q)
    (run : ∀ Qc, Met l (zy f) (zws f) (zrm d') (zPc ad dC dI tyI tyZ tyL H.size μ as) Qc 0 0 (va_A (zwd ad tyI tyZ tyL μ) H.size) → va_Run p l e R s mm args below meth c H locs cells slots 0 0 (F0 mm pc lsM st) (r.map (zvl ad)) (Qc (as.map (zvl ad)).toArray) (va_A (zwd ad tyI tyZ tyL μ) H.size))
    (kk : ∀ v μ' H' locs', nx v μ' → zHp s ad dC dI tyI tyZ tyL A μ' H' locs' → zso none v → W p l e R s mm args below meth c H' locs' cells slots Qm (F0 mm (pc + 3) lsM ((v ++ r).map (zvl ad)))) :
    W p l e R s mm args below meth c H locs cells slots Qm (F0 mm pc lsM st) := by
  obtain ⟨hP, hD, hS, hmo⟩ := hh
  have hF := zFr hD hS hA
  have fin : ∀ (u : zM) (t : State) (H1 : Heap) (locs1 : List Loc), t.heap = H1 → zmo u → zBw ad dC dI tyI tyZ tyL (va_A (zwd ad tyI tyZ tyL μ) H.size) u t → va_S A s.heap H1 locs1 → zHp s ad dC dI tyI tyZ tyL A u H1 locs1 := by
    intro u t H1 locs1 ht hm hB hS1
    obtain ⟨b1, b2, b3⟩ := hB
    rw [ht] at b1
    exact ⟨b1, b3.weaken (fun _ q _ h => hF q.1 h), hS1, hm⟩
  by_cases h0 : zmk f = 0
  · refine va_callv (run _ (zmet0 hf hf2 h0 hX l ad dC dI tyI tyZ tyL has hlen hmo H.size)) hS (fun q _ h => hF q h) hF (fun u t H1 locs1 ht hvm hw hB hz1 hk1 hS1 => ?_)
    have h1 := hw.1
    unfold zQm at h1
    rw [h0] at h1
    exact kk [] u H1 locs1 h1 (fin u t H1 locs1 ht hw.2 hB hS1) (fun _ h => by cases h)
  · by_cases h1 : zmk f = 1 ∨ zmk f = 2
    · refine va_calli (run _ (zmet1 hf hf2 h1 hX l ad dC dI tyI tyZ tyL has hlen hmo H.size)) hS (fun q _ h => hF q h) hF (fun r1 u t H1 locs1 ht hvm hw hB hz1 hk1 hS1 => ?_)
      obtain ⟨rfl, hx, hq, hm⟩ := hw
      have h2 : nx [zI u.1] u.2 := by
        unfold zQm at hq
        rcases h1 with h1 | h1
        · rw [h1] at hq; exact hq
        · rw [h1] at hq; exact hq
      exact kk [zI u.1] u.2 H1 locs1 h2 (fin u.2 t H1 locs1 ht hm hB hS1) (zso_c (v := zI u.1) hx (fun _ h => by cases h))
    · by_cases h4 : zmk f = 4
      · refine va_callr (run _ (zmet4 hf hf2 h4 hX l ad dC dI tyI tyZ tyL has hlen hmo H.size)) hS (fun q _ h => hF q h) hF (fun u ra t H1 locs1 ht hvm hw hB hz1 hk1 hS1 => ?_)
        obtain ⟨hx, hq, hm⟩ := hw
        obtain ⟨rfl, hB⟩ := hB
        unfold zQm at hq
        rw [h4] at hq
        have hq2 : (if u.1.1 = zrg f then nx [zR (zrg f) u.1.2] u.2 else False) := hq
        split at hq2
        · next he =>
          rw [← he] at hq2
          exact kk [zR u.1.1 u.1.2] u.2 H1 locs1 hq2 (fin u.2 t H1 locs1 ht hm hB hS1) (zso_c (v := zR u.1.1 u.1.2) hx (fun _ h => by cases h))
        · exact hq2.elim
      · exfalso
        have h3 : ∀ f, f < 243 → zmk f = 0 ∨ (zmk f = 1 ∨ zmk f = 2) ∨ zmk f = 4 ∨ zprim f = true := by decide +kernel
        rcases h3 f hf2 with q | q | q | q
        · exact h0 q
        · exact h1 q
        · exact h4 q
        · rw [hf] at q; cases q
theorem zso_none : ∀ {as : List zV}, zclean zak Γ as = true → zso Γ as → zso none as := by
  intro as hc hs v hv
  have h := hs v hv
  rcases v with a | a | q
  · exact h
  · exact h
  · cases Γ with
    | none => exact h
    | some G =>
      have h1 := List.all_eq_true.mp hc _ hv
      have h2 : zak q.1 ≠ 9 := by simpa using h1
      exact Or.inl (zvk_ar (t := q.1) (i := q.2) h h2)
theorem zGi (f : Nat) {own : String} {ix : Nat} {ps : List Nat} (hps : zchf f ps = true) (hl : Cond.methodLink own ix (zy f) ∈ zlg) (hi : Cond.instanceMethod (zy f) ∈ zlg ∧ Cond.selects (zy f).cls (zy f) (zy f) ∈ zlg) : GoodIn zlg (wsV own ix (zy f).cls (zy f) (zws f)) := by
  obtain ⟨hc, -, hin, -⟩ := zchf_iv hps
  intro w hw
  have hm : w ∈ zlg := by
    unfold wsV at hw
    rcases List.mem_append.mp hw with h | h
    · simp only [List.mem_cons, List.not_mem_nil, or_false] at h
      rcases h with rfl | rfl | rfl | rfl
      · exact hl
      · exact hi.1
      · exact hi.2
      · exact hin
    · rcases List.mem_cons.mp h with rfl | h
      · exact hc
      · exact h
  exact ⟨hm, good_of_word (zlg_good hm)⟩
theorem zGs (f : Nat) {own : String} {ix : Nat} {ps : List Nat} (hps : zchf f ps = true) (hl : Cond.methodLink own ix (zy f) ∈ zlg) (hi : Cond.static (zy f) ∈ zlg) : GoodIn zlg (va_wsS own ix (zy f) (zws f)) := by
  obtain ⟨hc, -, hin, -⟩ := zchf_iv hps
  intro w hw
  have hm : w ∈ zlg := by
    unfold va_wsS at hw
    rcases List.mem_append.mp hw with h | h
    · simp only [List.mem_cons, List.not_mem_nil, or_false] at h
      rcases h with rfl | rfl | rfl
      · exact hl
      · exact hi
      · exact hin
    · rcases List.mem_cons.mp h with rfl | h
      · exact hc
      · exact h
  exact ⟨hm, good_of_word (zlg_good hm)⟩
theorem zNw_warm {U : State} (hW : s.WarmedH U.vm) (hn : ∀ w ∈ zln, va_Nw w s) : ∀ w ∈ zln, va_Nw w U := by
  intro w hw
  obtain ⟨a1, i1, b1, n1, d1, h1, rfl⟩ := zln_form hw
  exact va_Nw.warmF hW (hn _ hw)
end
