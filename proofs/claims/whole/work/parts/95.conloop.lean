/-! THE CONSTRUCTORS with a loop: the past and the images -/
def zrgw (n : Nat) (F : Nat → va_W) : va_W := (List.range n).flatMap F
theorem zrgw_succ (n : Nat) (F : Nat → va_W) : zrgw (n + 1) F = zrgw n F ++ F n := by
  unfold zrgw
  rw [List.range_succ, List.flatMap_append]
  simp
theorem zrgw_cg {F G : Nat → va_W} : ∀ {n : Nat}, (∀ j, j < n → F j = G j) → zrgw n F = zrgw n G
  | 0, _ => rfl
  | n + 1, h => by rw [zrgw_succ, zrgw_succ, zrgw_cg (fun j hj => h j (by omega)), h n (by omega)]
theorem zkD_fst {A : Nat → Prop} {w1 w2 : va_W} (h : w1.map (·.1) = w2.map (·.1)) (hD : va_D A w1) : va_D A w2 := by
  have key : ∀ (k : Nat) (q : Nat × va_E), w2[k]? = some q → ∃ q', w1[k]? = some q' ∧ q'.1 = q.1 := by
    intro k q hq
    have h1 : (w1.map (·.1))[k]? = some q.1 := by rw [h, List.getElem?_map, hq]; rfl
    rw [List.getElem?_map] at h1
    cases h2 : w1[k]? with
    | none => rw [h2] at h1; cases h1
    | some q' => rw [h2] at h1; exact ⟨q', rfl, Option.some.inj h1⟩
  refine ⟨fun i j p q hp hq e => ?_, fun k q hq => ?_⟩
  · obtain ⟨p', hp', e1⟩ := key i p hp
    obtain ⟨q', hq', e2⟩ := key j q hq
    exact hD.1 i j p' q' hp' hq' (by rw [e1, e2, e])
  · obtain ⟨q', hq', e1⟩ := key k q hq
    rw [← e1]
    exact hD.2 k q' hq'
theorem zln_i4 : Cond.instantiable (zTn 4) (zTN 4) ∈ zlg := zat_in (p := 182) (by decide +kernel)
theorem zln_j4 : Cond.initialized (zTn 4) ∈ zlg := zat_in (p := 68) (by decide +kernel)
theorem zln_c4 : Cond.code yX3_init cX3_init 2 none ∈ zlg := zat_in (p := 185) (by decide +kernel)
theorem zln_m4 : Cond.instanceMethod yX3_init ∈ zlg := zat_in (p := 184) (by decide +kernel)
theorem zln_d4 : yX3_init.cls ≠ "java/lang/invoke/MethodHandle" ∧ yX3_init.cls ≠ "java/lang/invoke/VarHandle" ∧ (parseMethodDescriptor yX3_init.desc).map (fun d => d.parameters.length) = some 1 := by decide +kernel
section
variable {p : Program} {l : Launch} {e : Env} {R : Room} {s : State} {m : MethodId} {args : Array Value} {below : List Frame} {meth : Method} {c : Code} {H : Heap} {locs : List Loc} {cells slots : Nat} {Q : State → Prop}
variable {cc : ByteArray} {pc nL : Nat} {ls : Array Slot} {rest : List Value} {dC : Nat → ClassId} {dI : Nat → Nat → Nat} {tyI tyZ tyL : ClassId} {A : Nat → Prop} {ws : va_W} {own : String}
theorem zk_ext {x0 : Nat × va_E} {a n : Nat} {f f' : Nat → Option Nat} (hh : zkKh s dC dI A (x0 :: (a, zra n tyL f) :: ws) H locs) (hf : ∀ j, j < n → f j = f' j) : zkKh s dC dI A (x0 :: (a, zra n tyL f') :: ws) H locs := by
  obtain ⟨hP, hD, hS⟩ := hh
  refine ⟨fun k q hq => ?_, zkD_fst (w1 := x0 :: (a, zra n tyL f) :: ws) rfl hD, hS⟩
  rcases k with _ | _ | k
  · exact hP 0 q hq
  · have h1 : H[a]? = some (vp_cell tyL (n, .inr (.inr (.inr (.inr f))))) := hP 1 _ rfl
    have h2 : vp_cell tyL (n, .inr (.inr (.inr (.inr f)))) = vp_cell tyL (n, .inr (.inr (.inr (.inr f')))) := by
      rw [vp_cell_q, vp_cell_q]
      unfold arrV
      congr 2
      funext j
      show va_rf (f j.val) = va_rf (f' j.val)
      rw [hf j.val j.isLt]
    obtain rfl := Option.some.inj hq
    show H[a]? = some (vp_cell tyL (n, .inr (.inr (.inr (.inr f')))))
    rw [← h2]
    exact h1
  · exact hP (k + 2) q hq
theorem zk_ast {x0 : Nat × va_E} {a n i hs : Nat} {f : Nat → Option Nat} {g : Nat → Nat} (X : zkKx p s m args c dC dI tyI tyZ tyL own cc nL A) (hh : zkKh s dC dI A (x0 :: (a, zra n tyL f) :: (ws ++ zlfW tyI hs g)) H locs) (hi : i < n) (hn : n < 2000) (hdg : decode cc pc = .ok (.aastore, 1))
    (kk : ∀ (H1 : Heap) (locs1 : List Loc), zkKh s dC dI A (x0 :: (a, zra n tyL (va_up f i (some (g 0)))) :: (ws ++ zlfW tyI hs g)) H1 locs1 → W p l e R s m args below meth c H1 locs1 cells slots Q (F0 m (pc + 1) ls rest)) : W p l e R s m args below meth c H locs cells slots Q (F0 m pc ls (.ref (g 0) :: .int (Int32.ofInt (i : Int)) :: .ref a :: rest)) := by
  obtain ⟨hP, hD, hS⟩ := hh
  have hv : (x0 :: (a, zra n tyL f) :: (ws ++ zlfW tyI hs g))[ws.length + 2]? = some (g 0, .inr (2, [.ref hs, .int 0, .int 0, .int 0, .ref (g 1), .ref (g 2), .ref (g 3), .ref (g 4), .ref (g 5)])) := by
    show (ws ++ zlfW tyI hs g)[ws.length]? = _
    rw [List.getElem?_append_right (Nat.le_refl _), Nat.sub_self]
    rfl
  refine va_astq (r := (RX3, TX3, 9)) X.1.1 X.1.2.1 X.2.2.1 hP hD hS 1 2 (ws.length + 2) 2 rfl rfl hv rfl (z_vin (k := (i : Int)) (n := n) (by omega) (by omega) (by omega)) hdg (fun H1 locs1 hP hD hS => ?_)
  rw [(zkn_ok i (by omega)).2.1] at hP hD
  exact kk H1 locs1 ⟨hP, hD, hS⟩
/-- the length of the array behind the object -/
theorem zk_aln {x0 : Nat × va_E} {a n : Nat} {f : Nat → Option Nat} (X : zkKx p s m args c dC dI tyI tyZ tyL own cc nL A) (hh : zkKh s dC dI A (x0 :: (a, zra n tyL f) :: ws) H locs) (hdg : decode cc pc = .ok (.arraylength, 1))
    (kk : W p l e R s m args below meth c H locs cells slots Q (F0 m (pc + 1) ls (.int (Int32.ofInt (n : Int)) :: rest))) : W p l e R s m args below meth c H locs cells slots Q (F0 m pc ls (.ref a :: rest)) :=
  va_alen (D := (dC, dI)) X.1.1 X.1.2.1 X.2.2.1 hh.1 1 2 rfl rfl rfl hdg kk
/-- the loop that fills an array with new lives, up to its length -/
theorem zk_loop {t n h b hs h0 a ix ixc ixm c0 s0 : Nat} {off2 : Int} {fs : List Value} (ht : 0 < t ∧ t < 10) (hn : n < 2000) (X : zkKx p s m args c dC dI tyI tyZ tyL (zTn t) cc 3 A) (hb : h + 1 + 1 + 3 + 1 = b)
    (hfs : fs[0]? = some (.ref a)) (hk : 0 < zTN t) (hw : Cond.fieldLink (zTn t) ix (zTn t) (zTf t 0).2.1 (zTf t 0).2.2.1 ∈ zlg) (hlk : Cond.classLink (zTn t) ixc (zTn 4) ∈ zlg) (hml : Cond.methodLink (zTn t) ixm yX3_init ∈ zlg)
    (d0 : decode cc h = .ok (.iload_n 2, 1)) (d1 : decode cc (h + 1) = .ok (.aload_n 0, 1)) (d1b : decode cc (h + 1 + 1) = .ok (.getfield ix, 3)) (d1c : decode cc (h + 1 + 1 + 3) = .ok (.arraylength, 1)) (d2 : decode cc b = .ok (.if_icmp .ge 23, 3)) (d3 : decode cc (b + 3) = .ok (.aload_n 0, 1)) (d4 : decode cc (b + 4) = .ok (.getfield ix, 3)) (d5 : decode cc (b + 7) = .ok (.iload_n 2, 1)) (d6 : decode cc (b + 8) = .ok (.new ixc, 3)) (d7 : decode cc (b + 11) = .ok (.dup, 1)) (d8 : decode cc (b + 12) = .ok (.aload_n 1, 1)) (d9 : decode cc (b + 13) = .ok (.invokespecial ixm, 3)) (d10 : decode cc (b + 16) = .ok (.aastore, 1)) (d11 : decode cc (b + 17) = .ok (.iinc 2 1, 3)) (d12 : decode cc (b + 20) = .ok (.goto off2, 3)) (hoff : ((b + 20 : Nat) : Int) + off2 = (h : Int))
    (hR : 2 ≤ R.frames ∧ 57 ≤ R.locals ∧ c0 + 6 * n ≤ R.cells ∧ s0 + 50 * n ≤ R.slots)
    (kk : ∀ (f : Nat → Option Nat) (g : Nat → Nat → Nat) (H : Heap) (locs : List Loc) (ls : Array Slot), zkKh s dC dI A ((h0, .inr (zci t, fs)) :: (a, zra n tyL f) :: (ws ++ zrgw n fun j => zlfW tyI hs (g j))) H locs → (∀ j, j < n → f j = some (g j 0)) → W p l e R s m args below meth c H locs (c0 + 6 * n) (s0 + 50 * n) Q (F0 m (b + 23) ls [])) :
    ∀ (k i : Nat), i + k = n → ∀ (f : Nat → Option Nat) (g : Nat → Nat → Nat) (H : Heap) (locs : List Loc) (ls : Array Slot), zkKh s dC dI A ((h0, .inr (zci t, fs)) :: (a, zra n tyL f) :: (ws ++ zrgw i fun j => zlfW tyI hs (g j))) H locs → (∀ j, j < i → f j = some (g j 0)) → lv_has ls 3 [(2, .int (Int32.ofInt (i : Int))), (0, .ref h0), (1, .ref hs)] → W p l e R s m args below meth c H locs (c0 + 6 * i) (s0 + 50 * i) Q (F0 m h ls []) := by
  intro k
  induction k with
  | zero =>
    intro i hik f g H locs ls hh hf hl
    obtain rfl : i = n := by omega
    refine lv_iload_n (k := 2) (i := 2) X.1.1 X.1.2.1 d0 rfl (lv_at hl 0 rfl) ?_
    refine lv_aload_n (k := 0) (i := 0) X.1.1 X.1.2.1 d1 rfl (lv_at hl 1 rfl) ?_
    refine zk_get ht X hh hk hw hfs d1b ?_
    refine zk_aln X hh d1c ?_
    rw [hb]
    refine lv_icmp_ge (tgt := b + 23) X.1.1 X.1.2.1 d2 (by omega) (fun _ => ?_) (fun hne => absurd (Int32.le_refl _) hne)
    exact kk f g H locs ls hh hf
  | succ k ih =>
    intro i hik f g H locs ls hh hf hl
    have hi : i < n := by omega
    refine lv_iload_n (k := 2) (i := 2) X.1.1 X.1.2.1 d0 rfl (lv_at hl 0 rfl) ?_
    refine lv_aload_n (k := 0) (i := 0) X.1.1 X.1.2.1 d1 rfl (lv_at hl 1 rfl) ?_
    refine zk_get ht X hh hk hw hfs d1b ?_
    refine zk_aln X hh d1c ?_
    rw [hb]
    refine lv_icmp_ge (tgt := b + 23) X.1.1 X.1.2.1 d2 (by omega) (fun hge => ?_) (fun _ => ?_)
    · exfalso
      have h2 := (z_lei (a := (n : Int)) (b := (i : Int)) ⟨by omega, by omega⟩ ⟨by omega, by omega⟩).mp hge
      omega
    refine lv_aload_n (k := 0) (i := 0) X.1.1 X.1.2.1 d3 rfl (lv_at hl 1 rfl) ?_
    refine zk_get ht X hh hk hw hfs d4 ?_
    refine lv_iload_n (k := 2) (i := 2) X.1.1 X.1.2.1 d5 rfl (lv_at hl 0 rfl) ?_
    refine zk_new (t := 4) ⟨by decide, by decide⟩ X hh ⟨hlk, zln_i4, zln_j4⟩ d6 ⟨by omega, by show s0 + 50 * i + 9 ≤ _; omega⟩ (fun q H hh => ?_)
    refine lv_dup X.1.1 X.1.2.1 d7 rfl ?_
    refine lv_aload_n (k := 1) (i := 1) X.1.1 X.1.2.1 d8 rfl (lv_at hl 2 rfl) ?_
    refine zk_inv (as := [.ref hs]) X (con_X3 l hs) hh (.inl hml) ⟨zln_c4, zln_j4, zln_m4⟩ rfl zln_d4 ⟨hR.1, hR.2.1⟩ hl.1 (Nat.le_of_ble_eq_true rfl) d9 ⟨by omega, by show s0 + 50 * i + 9 + 41 ≤ _; omega⟩ (fun u H locs hu hh => ?_)
    obtain ⟨g', rfl, rfl⟩ := hu
    have hh : zkKh s dC dI A ((h0, .inr (zci t, fs)) :: (a, zra n tyL f) :: ((ws ++ zrgw i fun j => zlfW tyI hs (g j)) ++ zlfW tyI hs g')) H locs := hh
    refine zk_ast X hh hi hn d10 (fun H locs hh => ?_)
    refine lv_iinc (k := 0) X.1.1 X.1.2.1 d11 hl rfl (v := Int32.ofInt ((i + 1 : Nat) : Int)) (by rw [show ((i + 1 : Nat) : Int) = (i : Int) + 1 from rfl, Int32.ofInt_add]) (by decide) rfl (fun ls hl => ?_)
    refine lv_goto (tgt := h) X.1.1 X.1.2.1 d12 hoff ?_
    refine W.widen (k := c0 + 6 * (i + 1)) (n := s0 + 50 * (i + 1)) (by omega) (by show s0 + 50 * i + 9 + 41 ≤ _; omega) ?_
    have e1 : (ws ++ zrgw i fun j => zlfW tyI hs (g j)) ++ zlfW tyI hs g' = ws ++ zrgw (i + 1) fun j => zlfW tyI hs ((fun j => if j = i then g' else g j) j) := by
      rw [zrgw_succ, List.append_assoc]
      congr 1
      show _ = (zrgw i fun j => zlfW tyI hs (if j = i then g' else g j)) ++ zlfW tyI hs (if i = i then g' else g i)
      rw [if_pos rfl]
      congr 1
      exact zrgw_cg (fun j hj => by rw [if_neg (by omega)])
    rw [e1] at hh
    refine ih (i + 1) (by omega) _ _ H locs ls hh (fun j hj => ?_) hl
    unfold va_up
    by_cases hj2 : j = i
    · rw [if_pos hj2, if_pos hj2]
    · rw [if_neg hj2, if_neg hj2]
      exact hf j (by omega)
end
