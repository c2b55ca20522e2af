/-! THE CONSTRUCTORS' KIT: an object is made, then its fields, one behind another -/
def zlm : List Cond := [.methodLinkNest RX11 18 yX1_init RX11, .methodLinkNest RX11 51 yX10_init RX11, .methodLinkNest RX11 58 yX4_init RX11, .methodLinkNest RX11 9 yX7_init RX11, .methodLinkNest RX7 11 yX1_init RX11]
theorem zlm_form {w : Cond} (h : w ∈ zlm) : ∃ a i y b, w = .methodLinkNest a i y b := by
  simp only [zlm, List.mem_cons, List.not_mem_nil, or_false] at h
  rcases h with rfl | rfl | rfl | rfl | rfl <;> exact ⟨_, _, _, _, rfl⟩
def zNm (U : State) : Prop := (∀ w ∈ zlm, va_Nw w U) ∧ va_AO "MusicWalls$Life" U
theorem zak_int : Cond.arrayClass .int ∈ zlg := zat_in (p := 156) (by decide +kernel)
theorem zak_boolean : Cond.arrayClass .boolean ∈ zlg := zat_in (p := 1112) (by decide +kernel)
theorem zko_1 : Cond.instanceMethod objectInit ∈ zlg := zat_in (p := 88) (by decide +kernel)
theorem zko_2 : Cond.code objectInit ⟨#[0xb1]⟩ 1 none ∈ zlg := zat_in (p := 89) (by decide +kernel)
/-- a new object's fields -/
def zdf (t : Nat) : List Value := (List.range (zTN t)).map fun k => defaultValue (zty t k)
def zpb (cc : ByteArray) (pc : Nat) (n : Int) (w : Nat) : Bool := (w == 1 && decide (decode cc pc = .ok (.iconst n, 1))) || (w == 2 && (decide (decode cc pc = .ok (.bipush n, 2)) && decide ((Int8.ofInt n).toInt32 = Int32.ofInt n))) || (w == 3 && (decide (decode cc pc = .ok (.sipush n, 3)) && decide ((Int16.ofInt n).toInt32 = Int32.ofInt n)))
abbrev zia (n : Nat) (ty : ClassId) : va_E := .inl (ty, n, .inl fun _ => 0)
abbrev zra (n : Nat) (ty : ClassId) (f : Nat → Option Nat) : va_E := .inl (ty, n, .inr (.inr (.inr (.inr f))))
def zkKx (p : Program) (s : State) (m : MethodId) (args : Array Value) (c : Code) (dC : Nat → ClassId) (dI : Nat → Nat → Nat) (tyI tyZ tyL : ClassId) (own : String) (cc : ByteArray) (nL : Nat) (A : Nat → Prop) : Prop :=
  (p.tables.exec = Jvm.exec ∧ c.code = cc ∧ c.maxLocals = nL ∧ s.vm.findClass own = some m.cls) ∧ ((∀ w ∈ zlg, w.before args s = true) ∧ zNm s) ∧ va_K (dC, dI) vwCl (zts tyI tyZ tyL) s ∧ ∀ q, s.heap.size ≤ q → A q
def zkKh (s : State) (dC : Nat → ClassId) (dI : Nat → Nat → Nat) (A : Nat → Prop) (ws : va_W) (H : Heap) (locs : List Loc) : Prop := va_P (dC, dI) vwCl ws H ∧ va_D A ws ∧ va_S A s.heap H locs
section
variable {p : Program} {l : Launch} {e : Env} {R : Room} {s : State} {m : MethodId} {args : Array Value} {below : List Frame} {meth : Method} {c : Code} {H : Heap} {locs : List Loc} {cells slots : Nat} {Q : State → Prop}
variable {cc : ByteArray} {pc nL : Nat} {ls : Array Slot} {rest : List Value} {dC : Nat → ClassId} {dI : Nat → Nat → Nat} {tyI tyZ tyL : ClassId} {A : Nat → Prop} {ws : va_W} {own : String}
theorem zk_push {n : Int} {w : Nat} (X : zkKx p s m args c dC dI tyI tyZ tyL own cc nL A) (hd : zpb cc pc n w = true) (kk : W p l e R s m args below meth c H locs cells slots Q (F0 m (pc + w) ls (.int (Int32.ofInt n) :: rest))) : W p l e R s m args below meth c H locs cells slots Q (F0 m pc ls rest) := by
  obtain ⟨⟨hx, hb, -, -⟩, -⟩ := X
  simp only [zpb, Bool.or_eq_true, Bool.and_eq_true, beq_iff_eq, decide_eq_true_eq] at hd
  rcases hd with (⟨rfl, h⟩ | ⟨rfl, h, h2⟩) | ⟨rfl, h, h2⟩
  · exact lv_iconst hx hb h rfl kk
  · exact lv_bipush hx hb h h2 kk
  · exact lv_sipush hx hb h h2 kk
theorem zkK_int (X : zkKx p s m args c dC dI tyI tyZ tyL own cc nL A) {cA : ClassId} (h : va_K (dC, dI) vwCl (zts tyI tyZ tyL ++ [(cA, .int)]) s) : cA = tyI := by
  have h1 : s.vm.findClass _ = some cA := (h.2 3 _ rfl).2
  have h2 : s.vm.findClass _ = some tyI := (X.2.2.1.2 0 _ rfl).2
  exact Option.some.inj (h1.symm.trans h2)
theorem zkK_bool (X : zkKx p s m args c dC dI tyI tyZ tyL own cc nL A) {cA : ClassId} (h : va_K (dC, dI) vwCl (zts tyI tyZ tyL ++ [(cA, .boolean)]) s) : cA = tyZ := by
  have h1 : s.vm.findClass _ = some cA := (h.2 3 _ rfl).2
  have h2 : s.vm.findClass _ = some tyZ := (X.2.2.1.2 1 _ rfl).2
  exact Option.some.inj (h1.symm.trans h2)
theorem zkK_life (X : zkKx p s m args c dC dI tyI tyZ tyL own cc nL A) {cA : ClassId} (h : va_K (dC, dI) vwCl (zts tyI tyZ tyL ++ [(cA, .object "MusicWalls$Life")]) s) : cA = tyL := by
  obtain ⟨_, _, -, -, -, h1⟩ := (h.2 3 _ rfl).2
  obtain ⟨_, _, -, -, -, h2⟩ := (X.2.2.1.2 2 _ rfl).2
  exact Option.some.inj (h1.symm.trans h2)
theorem zkn_ok : ∀ n : Nat, n < 2000 → ¬ Int32.ofInt (n : Int) < 0 ∧ (Int32.ofInt (n : Int)).toNatClampNeg = n ∧ n * 4 ≤ 536870912 := by
  intro n hn
  refine ⟨?_, ?_, by omega⟩
  · rw [show (0 : Int32) = Int32.ofInt 0 from rfl, z_lti ⟨by omega, by omega⟩ z_zero]
    omega
  · rw [z_cl ⟨by omega, by omega⟩]
    omega
theorem zk_newi {n : Nat} (X : zkKx p s m args c dC dI tyI tyZ tyL own cc nL A) (hh : zkKh s dC dI A ws H locs) (hn : n < 2000) (hdg : decode cc pc = .ok (.newarray .int, 2)) (hr : cells + 1 ≤ R.cells ∧ slots + n ≤ R.slots)
    (kk : ∀ (q : Nat) (H1 : Heap), zkKh s dC dI A (ws ++ [(q, zia n tyI)]) H1 locs → W p l e R s m args below meth c H1 locs (cells + 1) (slots + n) Q (F0 m (pc + 2) ls (.ref q :: rest))) : W p l e R s m args below meth c H locs cells slots Q (F0 m pc ls (.int (Int32.ofInt (n : Int)) :: rest)) := by
  obtain ⟨n1, n2, n3⟩ := zkn_ok n hn
  obtain ⟨hP, hD, hS⟩ := hh
  refine va_newa (atype := .int) (a0 := (n, .inl fun _ => 0)) (ty := .int) X.1.1 X.1.2.1 (X.2.1.1 _ zak_int) rfl X.2.2.1 hP hD hS X.2.2.2 (fun _ => rfl) n1 n2 n3 hr.1 hr.2 hdg (fun q cA H1 hK hP hD hS => ?_)
  obtain rfl := zkK_int X hK
  exact kk q H1 ⟨hP, hD, hS⟩
theorem zk_newz {n : Nat} (X : zkKx p s m args c dC dI tyI tyZ tyL own cc nL A) (hh : zkKh s dC dI A ws H locs) (hn : n < 2000) (hdg : decode cc pc = .ok (.newarray .boolean, 2)) (hr : cells + 1 ≤ R.cells ∧ slots + n ≤ R.slots)
    (kk : ∀ (q : Nat) (H1 : Heap), zkKh s dC dI A (ws ++ [(q, zia n tyZ)]) H1 locs → W p l e R s m args below meth c H1 locs (cells + 1) (slots + n) Q (F0 m (pc + 2) ls (.ref q :: rest))) : W p l e R s m args below meth c H locs cells slots Q (F0 m pc ls (.int (Int32.ofInt (n : Int)) :: rest)) := by
  obtain ⟨n1, n2, n3⟩ := zkn_ok n hn
  obtain ⟨hP, hD, hS⟩ := hh
  refine va_newa (atype := .boolean) (a0 := (n, .inl fun _ => 0)) (ty := .boolean) X.1.1 X.1.2.1 (X.2.1.1 _ zak_boolean) rfl X.2.2.1 hP hD hS X.2.2.2 (fun _ => rfl) n1 n2 (by show n * 1 ≤ _; omega) hr.1 hr.2 hdg (fun q cA H1 hK hP hD hS => ?_)
  obtain rfl := zkK_bool X hK
  exact kk q H1 ⟨hP, hD, hS⟩
theorem zk_newl {n index : Nat} (X : zkKx p s m args c dC dI tyI tyZ tyL own cc nL A) (hh : zkKh s dC dI A ws H locs) (hn : n < 2000) (hlk : Cond.classLink own index "MusicWalls$Life" ∈ zlg) (hdg : decode cc pc = .ok (.anewarray index, 3)) (hr : cells + 1 ≤ R.cells ∧ slots + n ≤ R.slots)
    (kk : ∀ (q : Nat) (H1 : Heap), zkKh s dC dI A (ws ++ [(q, zra n tyL fun _ => none)]) H1 locs → W p l e R s m args below meth c H1 locs (cells + 1) (slots + n) Q (F0 m (pc + 3) ls (.ref q :: rest))) : W p l e R s m args below meth c H locs cells slots Q (F0 m pc ls (.int (Int32.ofInt (n : Int)) :: rest)) := by
  obtain ⟨n1, n2, n3⟩ := zkn_ok n hn
  obtain ⟨hP, hD, hS⟩ := hh
  refine va_newq (C := "MusicWalls$Life") X.1.1 X.1.2.1 X.1.2.2.2 (X.2.1.1 _ hlk) X.2.1.2.2 X.2.2.1 hP hD hS X.2.2.2 n1 n2 n3 hr.1 hr.2 hdg (fun q cA H1 hK hP hD hS => ?_)
  obtain rfl := zkK_life X hK
  exact kk q H1 ⟨hP, hD, hS⟩
theorem zdf_V (t j : Nat) (h : j < zTN t) : defaultValue (zty t j) = vp_V (zdf t) j := by
  unfold vp_V zdf
  rw [List.getD_eq_getElem?_getD, List.getElem?_map, List.getElem?_range h]
  rfl
theorem zk_new {t index : Nat} (ht : 0 < t ∧ t < 10) (X : zkKx p s m args c dC dI tyI tyZ tyL own cc nL A) (hh : zkKh s dC dI A ws H locs) (hlk : Cond.classLink own index (zTn t) ∈ zlg ∧ Cond.instantiable (zTn t) (zTN t) ∈ zlg ∧ Cond.initialized (zTn t) ∈ zlg) (hdg : decode cc pc = .ok (.new index, 3)) (hr : cells + 1 ≤ R.cells ∧ slots + zTN t ≤ R.slots)
    (kk : ∀ (q : Nat) (H1 : Heap), zkKh s dC dI A (ws ++ [(q, .inr (zci t, zdf t))]) H1 locs → W p l e R s m args below meth c H1 locs (cells + 1) (slots + zTN t) Q (F0 m (pc + 3) ls (.ref q :: rest))) : W p l e R s m args below meth c H locs cells slots Q (F0 m pc ls rest) := by
  obtain ⟨hP, hD, hS⟩ := hh
  obtain ⟨g1, g2, g3, -, -⟩ := zTg_all t ht.1 ht.2
  exact va_new X.1.1 X.1.2.1 X.2.1.1 g2 (zty t) g3 X.1.2.2.2 (X.2.1.1 _ hlk.1) (X.2.1.1 _ hlk.2.1) (X.2.1.1 _ hlk.2.2) X.2.2.1 hP hD hS X.2.2.2 g1 (zdf_V t) hr.1 hr.2 hdg (fun q H1 hP hD hS => kk q H1 ⟨hP, hD, hS⟩)
theorem zk_put {t k ix h0 : Nat} {fs : List Value} {v : Value} (ht : 0 < t ∧ t < 10) (X : zkKx p s m args c dC dI tyI tyZ tyL (zTn t) cc nL A) (hin : meth.name = "<init>") (hh : zkKh s dC dI A ((h0, .inr (zci t, fs)) :: ws) H locs) (hk : k < zTN t) (hlen : k < fs.length) (hw : Cond.fieldLink (zTn t) ix (zTn t) (zTf t k).2.1 (zTf t k).2.2.1 ∈ zlg) (hv : narrow (zty t k) v = v) (hv2 : fits (zty t k) v = true) (hdg : decode cc pc = .ok (.putfield ix, 3))
    (kk : ∀ (H1 : Heap) (locs1 : List Loc), zkKh s dC dI A ((h0, .inr (zci t, fs.set k v)) :: ws) H1 locs1 → W p l e R s m args below meth c H1 locs1 cells slots Q (F0 m (pc + 3) ls rest)) : W p l e R s m args below meth c H locs cells slots Q (F0 m pc ls (v :: .ref h0 :: rest)) := by
  obtain ⟨hP, hD, hS⟩ := hh
  obtain ⟨g1, g2, g3, g4, g5⟩ := zTg_all t ht.1 ht.2
  have hsame : ∀ x, s.fieldFound? (zTf t k).1 (zTf t k).2.1 (zTf t k).2.2.1 = some x → s.fieldFound? (zTn t) (zTf t k).2.1 (zTf t k).2.2.1 = some x := by
    rw [g5 k hk]
    exact fun x h => h
  cases hf : (zTf t k).2.2.2 with
  | true => exact va_putF X.1.1 X.1.2.1 X.2.1.1 g2 (zty t) g3 g4 X.1.2.2.2 X.2.2.1 hP hD hS 0 rfl g1 k hk (X.2.1.1 _ hw) hsame hf hin (g5 k hk) (g3 k hk) hv hv2 hlen hdg (fun H1 locs1 hP hD hS => kk H1 locs1 ⟨hP, hD, hS⟩)
  | false => exact va_put X.1.1 X.1.2.1 X.2.1.1 g2 (zty t) g3 g4 X.1.2.2.2 X.2.2.1 hP hD hS 0 rfl g1 k hk (X.2.1.1 _ hw) hsame hf (g3 k hk) hv hv2 hlen hdg (fun H1 locs1 hP hD hS => kk H1 locs1 ⟨hP, hD, hS⟩)
theorem zk_get {t k ix h0 : Nat} {fs : List Value} {v : Value} (ht : 0 < t ∧ t < 10) (X : zkKx p s m args c dC dI tyI tyZ tyL (zTn t) cc nL A) (hh : zkKh s dC dI A ((h0, .inr (zci t, fs)) :: ws) H locs) (hk : k < zTN t) (hw : Cond.fieldLink (zTn t) ix (zTn t) (zTf t k).2.1 (zTf t k).2.2.1 ∈ zlg) (hv : fs[k]? = some v) (hdg : decode cc pc = .ok (.getfield ix, 3))
    (kk : W p l e R s m args below meth c H locs cells slots Q (F0 m (pc + 3) ls (v :: rest))) : W p l e R s m args below meth c H locs cells slots Q (F0 m pc ls (.ref h0 :: rest)) := by
  obtain ⟨hP, hD, hS⟩ := hh
  obtain ⟨g1, g2, g3, g4, g5⟩ := zTg_all t ht.1 ht.2
  have hsame : ∀ x, s.fieldFound? (zTf t k).1 (zTf t k).2.1 (zTf t k).2.2.1 = some x → s.fieldFound? (zTn t) (zTf t k).2.1 (zTf t k).2.2.1 = some x := by
    rw [g5 k hk]
    exact fun x h => h
  exact va_get X.1.1 X.1.2.1 X.2.1.1 g2 X.1.2.2.2 X.2.2.1 hP 0 rfl g1 k hk (X.2.1.1 _ hw) hsame hv hdg kk
/-- a field of ints: this; push; put -/
theorem zk_int {t k ix h0 w : Nat} {n : Int} {fs : List Value} (ht : 0 < t ∧ t < 10) (X : zkKx p s m args c dC dI tyI tyZ tyL (zTn t) cc nL A) (hin : meth.name = "<init>") (hl : ls[0]? = some (.val (.ref h0))) (hh : zkKh s dC dI A ((h0, .inr (zci t, fs)) :: ws) H locs) (hk : k < zTN t ∧ zty t k = .int) (hlen : k < fs.length) (hw : Cond.fieldLink (zTn t) ix (zTn t) (zTf t k).2.1 (zTf t k).2.2.1 ∈ zlg)
    (hd1 : decode cc pc = .ok (.aload_n 0, 1)) (hd2 : zpb cc (pc + 1) n w = true) (hd3 : decode cc (pc + 1 + w) = .ok (.putfield ix, 3))
    (kk : ∀ (H1 : Heap) (locs1 : List Loc), zkKh s dC dI A ((h0, .inr (zci t, fs.set k (.int (Int32.ofInt n)))) :: ws) H1 locs1 → W p l e R s m args below meth c H1 locs1 cells slots Q (F0 m (pc + 1 + w + 3) ls rest)) : W p l e R s m args below meth c H locs cells slots Q (F0 m pc ls rest) := by
  refine lv_aload_n X.1.1 X.1.2.1 hd1 rfl hl ?_
  refine zk_push X hd2 ?_
  refine zk_put ht X hin hh hk.1 hlen hw (by rw [hk.2]; rfl) (by rw [hk.2]; rfl) hd3 kk
/-- a field of an array of ints: this; push; newarray; put -/
theorem zk_arr {t k ix h0 w n : Nat} {fs : List Value} (ht : 0 < t ∧ t < 10) (X : zkKx p s m args c dC dI tyI tyZ tyL (zTn t) cc nL A) (hin : meth.name = "<init>") (hl : ls[0]? = some (.val (.ref h0))) (hh : zkKh s dC dI A ((h0, .inr (zci t, fs)) :: ws) H locs) (hk : k < zTN t ∧ zty t k = .array .int) (hlen : k < fs.length) (hw : Cond.fieldLink (zTn t) ix (zTn t) (zTf t k).2.1 (zTf t k).2.2.1 ∈ zlg) (hn : n < 2000)
    (hd1 : decode cc pc = .ok (.aload_n 0, 1)) (hd2 : zpb cc (pc + 1) (n : Int) w = true) (hd3 : decode cc (pc + 1 + w) = .ok (.newarray .int, 2)) (hd4 : decode cc (pc + 1 + w + 2) = .ok (.putfield ix, 3)) (hr : cells + 1 ≤ R.cells ∧ slots + n ≤ R.slots)
    (kk : ∀ (q : Nat) (H1 : Heap) (locs1 : List Loc), zkKh s dC dI A ((h0, .inr (zci t, fs.set k (.ref q))) :: (ws ++ [(q, zia n tyI)])) H1 locs1 → W p l e R s m args below meth c H1 locs1 (cells + 1) (slots + n) Q (F0 m (pc + 1 + w + 2 + 3) ls rest)) : W p l e R s m args below meth c H locs cells slots Q (F0 m pc ls rest) := by
  refine lv_aload_n X.1.1 X.1.2.1 hd1 rfl hl ?_
  refine zk_push X hd2 ?_
  refine zk_newi X hh hn hd3 hr (fun q H1 hh => ?_)
  exact zk_put ht X hin hh hk.1 hlen hw (by rw [hk.2]; rfl) (by rw [hk.2]; rfl) hd4 (kk q)
theorem zk_arz {t k ix h0 w n : Nat} {fs : List Value} (ht : 0 < t ∧ t < 10) (X : zkKx p s m args c dC dI tyI tyZ tyL (zTn t) cc nL A) (hin : meth.name = "<init>") (hl : ls[0]? = some (.val (.ref h0))) (hh : zkKh s dC dI A ((h0, .inr (zci t, fs)) :: ws) H locs) (hk : k < zTN t ∧ zty t k = .array .boolean) (hlen : k < fs.length) (hw : Cond.fieldLink (zTn t) ix (zTn t) (zTf t k).2.1 (zTf t k).2.2.1 ∈ zlg) (hn : n < 2000)
    (hd1 : decode cc pc = .ok (.aload_n 0, 1)) (hd2 : zpb cc (pc + 1) (n : Int) w = true) (hd3 : decode cc (pc + 1 + w) = .ok (.newarray .boolean, 2)) (hd4 : decode cc (pc + 1 + w + 2) = .ok (.putfield ix, 3)) (hr : cells + 1 ≤ R.cells ∧ slots + n ≤ R.slots)
    (kk : ∀ (q : Nat) (H1 : Heap) (locs1 : List Loc), zkKh s dC dI A ((h0, .inr (zci t, fs.set k (.ref q))) :: (ws ++ [(q, zia n tyZ)])) H1 locs1 → W p l e R s m args below meth c H1 locs1 (cells + 1) (slots + n) Q (F0 m (pc + 1 + w + 2 + 3) ls rest)) : W p l e R s m args below meth c H locs cells slots Q (F0 m pc ls rest) := by
  refine lv_aload_n X.1.1 X.1.2.1 hd1 rfl hl ?_
  refine zk_push X hd2 ?_
  refine zk_newz X hh hn hd3 hr (fun q H1 hh => ?_)
  exact zk_put ht X hin hh hk.1 hlen hw (by rw [hk.2]; rfl) (by rw [hk.2]; rfl) hd4 (kk q)
/-- the object's own start: this; Object.<init> -/
theorem zk_obj {index h0 : Nat} (X : zkKx p s m args c dC dI tyI tyZ tyL own cc nL A) (hsz : ls.size = nL) (hl : ls[0]? = some (.val (.ref h0))) (hw : Cond.methodLink own index objectInit ∈ zlg) (hR : 1 ≤ R.frames ∧ 12 ≤ R.locals) (hd1 : decode cc 0 = .ok (.aload_n 0, 1)) (hd2 : decode cc 1 = .ok (.invokespecial index, 3))
    (kk : W p l e R s m args below meth c H locs cells slots Q (F0 m 4 ls [])) : W p l e R s m args below meth c H locs cells slots Q (F0 m 0 ls []) := by
  refine lv_aload_n X.1.1 X.1.2.1 hd1 rfl hl ?_
  refine W.objInit X.1.1 X.1.2.1 X.1.2.2.2 (X.2.1.1 _ hw) (X.2.1.1 _ zko_1) (X.2.1.1 _ zko_2) rfl (by rw [X.1.2.2.1]; exact hsz) rfl hd2 hR.1 hR.2 ?_
  exact W.eq (g2 := F0 m 4 ls []) rfl kk
end
