/-! THE START: from the law's entry to its loop, and its end -/
theorem zins_3 : Cond.instantiable RX1 11 ∈ zlg := zat_in (p := 97) (by decide +kernel)
theorem zins_6 : Cond.instantiable RX2 3 ∈ zlg := zat_in (p := 244) (by decide +kernel)
theorem zins_4 : Cond.instantiable RX3 9 ∈ zlg := zat_in (p := 182) (by decide +kernel)
theorem zins_8 : Cond.instantiable RX4 3 ∈ zlg := zat_in (p := 299) (by decide +kernel)
theorem zins_5 : Cond.instantiable RX6 3 ∈ zlg := zat_in (p := 225) (by decide +kernel)
theorem zins_2 : Cond.instantiable RX7 7 ∈ zlg := zat_in (p := 91) (by decide +kernel)
theorem zins_7 : Cond.instantiable RX10 10 ∈ zlg := zat_in (p := 262) (by decide +kernel)
theorem zins_1 : Cond.instantiable RX11 9 ∈ zlg := zat_in (p := 83) (by decide +kernel)
theorem zins_9 : Cond.instantiable RX12 27 ∈ zlg := zat_in (p := 1025) (by decide +kernel)
theorem zst_K {s : State} {args : Array Value} (hts : ∀ w ∈ zlg, w.before args s = true) (hAO : va_AO "MusicWalls$Life" s) : ∃ (dC : Nat → ClassId) (dI : Nat → Nat → Nat) (tyI tyZ tyL : ClassId), va_K (dC, dI) vwCl (zts tyI tyZ tyL) s := by
  have kn : ∀ {C : String} {T : u_T} {N : Nat}, (∀ w ∈ u_ws C T N, w ∈ zlg) → Cond.instantiable C N ∈ zlg → ∃ r : ClassId × (Nat → Nat), u_Kn s C T N r.1 r.2 := by
    intro C T N h1 h2
    obtain ⟨cC, iS, h⟩ := u_known hts h1 (hts _ h2)
    exact ⟨(cC, iS), h⟩
  have h : ∀ c : Nat, ∃ r : ClassId × (Nat → Nat), ∀ q, vwCl[c]? = some q → u_Kn s q.1 q.2.1 q.2.2 r.1 r.2 := by
    intro c
    cases hc : vwCl[c]? with
    | none => exact ⟨(0, fun _ => 0), fun q hq => by cases hq⟩
    | some q0 =>
      have hm := List.mem_of_getElem? hc
      have h1 : ∃ r : ClassId × (Nat → Nat), u_Kn s q0.1 q0.2.1 q0.2.2 r.1 r.2 := by
        simp only [List.mem_cons, List.not_mem_nil, or_false] at hm
        rcases hm with rfl | rfl | rfl | rfl | rfl | rfl | rfl | rfl | rfl
        · exact kn zuw_3 zins_3
        · exact kn zuw_6 zins_6
        · exact kn zuw_4 zins_4
        · exact kn zuw_8 zins_8
        · exact kn zuw_5 zins_5
        · exact kn zuw_2 zins_2
        · exact kn zuw_7 zins_7
        · exact kn zuw_1 zins_1
        · exact kn zuw_9 zins_9
      obtain ⟨r, hr⟩ := h1
      exact ⟨r, fun q hq => by rw [← Option.some.inj hq]; exact hr⟩
  obtain ⟨f, hf⟩ := Classical.axiomOfChoice h
  obtain ⟨tyI, kI, cI, i1, i2, i3⟩ := Cond.arrayClass_spec (hts _ zak_int)
  obtain ⟨tyZ, kZ, cZ, j1, j2, j3⟩ := Cond.arrayClass_spec (hts _ zak_boolean)
  obtain ⟨cL, tyL, kL, l1, l2, l3, l4, l5⟩ := Cond.arrayOver_spec (va_AO.use (A := args) hAO)
  refine ⟨fun c => (f c).1, fun c => (f c).2, tyI, tyZ, tyL, fun c q hq => hf c q hq, fun k q hq => ?_⟩
  rcases k with _ | _ | _ | k
  · obtain rfl := Option.some.inj hq
    exact ⟨fun N z => ⟨(fun k h => by cases h), kI, i2, cI, i3⟩, i1⟩
  · obtain rfl := Option.some.inj hq
    exact ⟨fun N z => ⟨(fun k h => by cases h), kZ, j2, cZ, j3⟩, j1⟩
  · obtain rfl := Option.some.inj hq
    exact ⟨fun N z => ⟨(fun k h => by cases h), kL, l3, cL, l4⟩, kL, cL, l3, l4, l1, l5⟩
  · cases hq
theorem zlm_in : ∀ w ∈ zlm, w ∈ lw_tbl := by decide +kernel
theorem zao_in : Cond.arrayOver (.object "MusicWalls$Life") ∈ lw_tbl := List.mem_of_getElem? (i := 231) (by decide +kernel)
theorem zkh_1 : (zsf 243 18).head?.map (·.1) = some 18 := by decide +kernel
theorem zkh_0 : zhd (zsf 243 18) 18 := by
  have h := zkh_1
  cases hz : zsf 243 18 with
  | nil => rw [hz] at h; cases h
  | cons e r =>
    rw [hz] at h
    exact Option.some.inj h
/-- from the entry, for every script of at most 2560 ints, the law comes to its end with true -/
theorem whole_start {p : Program} {e : Env} {s : State} {m : MethodId} {below : List Frame} {meth : Method} {c : Code} (l : Launch) (hflags : l.flags = flags0) {b L : Nat} {xs : Nat → Int32} (hL : L ≤ 2560) (C0 : lw_At p s m meth c b L xs) : W p l e room_1 s m #[Value.ref b] below meth c s.heap [] 0 0 (lw_Z below #[Value.ref b] s) (entryFrame m ([Value.ref b] : List Value).toArray 4) := by
  obtain ⟨hx, hb, hr, hml, hown, hts0, hX, hbl, hlocks, hgv⟩ := C0
  have hts : ∀ w ∈ zlg, w.before #[Value.ref b] s = true := fun w hw => hts0 w (List.mem_filter.mp hw).1
  have hNl : ∀ w ∈ zln, va_Nw w s := by
    intro w hw
    have h1 := hts0 w (List.mem_filter.mp hw).1
    obtain ⟨a1, i1, b1, n1, d1, h2, rfl⟩ := zln_form hw
    exact va_Nw.of rfl h1
  have hNm : zNm s := by
    refine ⟨fun w hw => ?_, va_AO.of (hts0 _ zao_in)⟩
    have h1 := hts0 w (zlm_in w hw)
    obtain ⟨a1, i1, y1, b1, rfl⟩ := zlm_form hw
    exact va_Nw.of rfl h1
  obtain ⟨dC, dI, tyI, tyZ, tyL, hK⟩ := zst_K hts hNm.2
  have X : zkKx p s m #[Value.ref b] c dC dI tyI tyZ tyL R_law code 4 (fun q => s.heap.size ≤ q) := ⟨⟨hx, hb, hml, hown⟩, ⟨hts, hNm⟩, hK, fun q h => h⟩
  have hl := lv_entry [Value.ref b] (n := 4) (Nat.le_of_ble_eq_true rfl)
  rw [lg_entry_eq]
  generalize (lg_sl [Value.ref b] ++ List.replicate (4 - (lg_sl [Value.ref b]).length) Slot.unset).toArray = ls at hl ⊢
  have hh : zkKh s dC dI (fun q => s.heap.size ≤ q) [] s.heap [] := ⟨fun k q hq => (by cases hq), ⟨fun i j p q hp => (by cases hp), fun k q hq => (by cases hq)⟩, va_S.rf⟩
  refine zk_new (t := 1) (index := 7) ⟨by decide, by decide⟩ X hh ⟨(zat_in (p := 82) (by decide +kernel)), (zat_in (p := 83) (by decide +kernel)), (zat_in (p := 65) (by decide +kernel))⟩ (by decide +kernel) ⟨(Nat.le_of_ble_eq_true rfl), (Nat.le_of_ble_eq_true rfl)⟩ (fun q1 H hh => ?_)
  refine lv_dup X.1.1 X.1.2.1 (by decide +kernel) rfl ?_
  refine zk_inv (ix := 9) (as := []) X (con_X11 l) hh (.inl (zat_in (p := 84) (by decide +kernel))) ⟨(zat_in (p := 86) (by decide +kernel)), (zat_in (p := 65) (by decide +kernel)), (zat_in (p := 85) (by decide +kernel))⟩ rfl (by decide +kernel) ⟨(Nat.le_of_ble_eq_true rfl), (Nat.le_of_ble_eq_true rfl)⟩ hl.1 (Nat.le_of_ble_eq_true rfl) (by decide +kernel) ⟨(Nat.le_of_ble_eq_true rfl), (Nat.le_of_ble_eq_true rfl)⟩ (fun u H locs hu hh => ?_)
  obtain ⟨S, gA, gB, gP, gI, hq1, rfl⟩ := hu
  refine lv_astore_n (k := 1) (i := 1) X.1.1 X.1.2.1 (by decide +kernel) rfl hl (by decide) rfl (fun ls hl => ?_)
  refine zk_new (t := 9) (index := 10) ⟨by decide, by decide⟩ X hh ⟨(zat_in (p := 1024) (by decide +kernel)), (zat_in (p := 1025) (by decide +kernel)), (zat_in (p := 73) (by decide +kernel))⟩ (by decide +kernel) ⟨(Nat.le_of_ble_eq_true rfl), (Nat.le_of_ble_eq_true rfl)⟩ (fun q2 H hh => ?_)
  refine lv_dup X.1.1 X.1.2.1 (by decide +kernel) rfl ?_
  refine zk_inv (ix := 12) (as := []) X (con_X12 l) hh (.inl (zat_in (p := 1026) (by decide +kernel))) ⟨(zat_in (p := 1028) (by decide +kernel)), (zat_in (p := 73) (by decide +kernel)), (zat_in (p := 1027) (by decide +kernel))⟩ rfl (by decide +kernel) ⟨(Nat.le_of_ble_eq_true rfl), (Nat.le_of_ble_eq_true rfl)⟩ hl.1 (Nat.le_of_ble_eq_true rfl) (by decide +kernel) ⟨(Nat.le_of_ble_eq_true rfl), (Nat.le_of_ble_eq_true rfl)⟩ (fun u H locs hu hh => ?_)
  obtain ⟨a, hq2, rfl⟩ := hu
  refine lv_astore_n (k := 2) (i := 2) X.1.1 X.1.2.1 (by decide +kernel) rfl hl (by decide) rfl (fun ls hl => ?_)
  refine zk_push (n := 0) (w := 1) X (by decide +kernel) ?_
  refine lv_istore_n (k := 3) (i := 3) X.1.1 X.1.2.1 (by decide +kernel) rfl hl (by decide) rfl (fun ls hl => ?_)
  have hl : lv_has ls 4 [(3, .int (Int32.ofInt 0)), (2, .ref q2), (1, .ref q1), (0, .ref b)] := hl
  obtain ⟨hP, hD⟩ := zw_fin (zEv_Kh (zw_all (b := b) (S := S) (gA := gA) (gB := gB) (gP := gP) (gI := gI) (a := a) (tyZ := tyZ)) hh)
  have hz : zHp s (zadr b S gA gB gP gI a) dC dI tyI tyZ tyL (fun q => s.heap.size ≤ q) zμn H locs := ⟨hP, hD, hh.2.2, zμn_mo⟩
  have hXx : va_X b L (fun k => Int32.ofInt (xs k).toInt) s s.heap := by
    have e1 : (fun k => Int32.ofInt (xs k).toInt) = xs := funext fun k => z_back (xs k)
    rw [e1]
    exact hX
  have hlaw := zsound (z_law L hL (fun k => (xs k).toInt) (fun k => Int.lt_of_le_of_lt (z_rg (xs k)).2 (by decide)) (fun v _ => v = 1) (fun μ _ => rfl) 2600 0 (by omega) (by omega) zμn zμn_rel)
  refine hlaw p l e room_1 s m #[Value.ref b] below meth c (zadr b S gA gB gP gI a) dC dI tyI tyZ tyL (fun q => s.heap.size ≤ q) b _ _ _ 18 H locs ls ⟨⟨hx, hb, hml, hown⟩, ⟨hts, hNl⟩, hK, fun q h => h, ⟨by decide, by decide, by decide, by decide⟩, zE_law, hXx, hbl, by omega, rfl, by omega, fun k _ => z_rg (xs k)⟩ (List.dropWhile_suffix _) zkh_0 hz ⟨rfl, hl.1, hl.2.1, fun q hq => ?_⟩ (fun _ h => by cases h) (fun i v hv => ?_) ?_
  · have hq : q ∈ [(0, Value.ref b), (1, Value.ref (S 1 0)), (2, Value.ref (a 0)), (3, Value.int (Int32.ofInt 0))] := hq
    rw [hq1, hq2] at hq
    refine hl.2.2 q ?_
    simp only [List.mem_cons, List.not_mem_nil, or_false] at hq ⊢
    rcases hq with h | h | h | h
    · exact Or.inr (Or.inr (Or.inr h))
    · exact Or.inr (Or.inr (Or.inl h))
    · exact Or.inr (Or.inl h)
    · exact Or.inl h
  · rcases i with _ | _ | _ | _ | i
    · obtain rfl := Option.some.inj hv
      exact Or.inr ⟨rfl, rfl, rfl⟩
    · obtain rfl := Option.some.inj hv
      exact Or.inl (by decide)
    · obtain rfl := Option.some.inj hv
      exact Or.inl (by decide)
    · obtain rfl := Option.some.inj hv
      exact z_zero
    · cases hv
  · intro v μ' pc' H' locs' lsM' hQ hh' hvk hret
    obtain ⟨x, rfl, -, hdec⟩ : ∃ x, v = some (zI x) ∧ (x = 0 ∨ x = 1) ∧ decode (zby 243) pc' = .ok (.ireturn, 1) := hret
    have hx1 : x = 1 := hQ
    subst hx1
    refine va_forget (fun q hq => hh'.2.2.1.2.2 q hq) ?_
    refine W.widen (k := 600000) (n := 7302250) (by decide) (by decide) ?_
    exact lw_ret hx hb hr hlocks hdec
