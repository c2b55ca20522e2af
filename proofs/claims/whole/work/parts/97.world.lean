/-! THE FRESH WORLD: all cells of both sides, by kind and number -/
def zEvc (x y : Nat × va_E) : Prop := x = y ∨ ∃ (a n : Nat) (ty : ClassId) (f f' : Nat → Option Nat), x = (a, zra n ty f) ∧ y = (a, zra n ty f') ∧ ∀ j, j < n → f j = f' j
def zEv : va_W → va_W → Prop
  | [], [] => True
  | x :: a, y :: b => zEvc x y ∧ zEv a b
  | [], _ :: _ => False
  | _ :: _, [] => False
theorem zEv_nil : zEv [] [] := trivial
theorem zEv_same (x : Nat × va_E) {w1 w2 : va_W} (h : zEv w1 w2) : zEv (x :: w1) (x :: w2) := ⟨Or.inl rfl, h⟩
theorem zEv_arr (a n : Nat) (ty : ClassId) (f f' : Nat → Option Nat) {w1 w2 : va_W} (hf : ∀ j, j < n → f j = f' j) (h : zEv w1 w2) : zEv ((a, zra n ty f) :: w1) ((a, zra n ty f') :: w2) := ⟨Or.inr ⟨a, n, ty, f, f', rfl, rfl, hf⟩, h⟩
theorem zEv_rf : ∀ w : va_W, zEv w w
  | [] => zEv_nil
  | x :: w => zEv_same x (zEv_rf w)
theorem zEv_app : ∀ {a b a' b' : va_W}, zEv a a' → zEv b b' → zEv (a ++ b) (a' ++ b')
  | [], _, [], _, _, k => k
  | _ :: _, _, _ :: _, _, h, k => ⟨h.1, zEv_app h.2 k⟩
  | [], _, _ :: _, _, h, _ => h.elim
  | _ :: _, _, [], _, h, _ => h.elim
theorem zEv_fst : ∀ {a b : va_W}, zEv a b → a.map (·.1) = b.map (·.1)
  | [], [], _ => rfl
  | x :: a, y :: b, h => by
    have h1 : x.1 = y.1 := by
      rcases h.1 with h | ⟨c, n, ty, f, f', h1, h2, -⟩
      · rw [h]
      · rw [h1, h2]
    simp [zEv_fst h.2, h1]
  | [], _ :: _, h => h.elim
  | _ :: _, [], h => h.elim
theorem zEv_mem : ∀ {a b : va_W}, zEv a b → ∀ q ∈ b, ∃ q' ∈ a, ∀ (D : va_G) (cl : List vw_C) (H : Heap), va_at D cl q' H → va_at D cl q H
  | [], [], _, _, hq => absurd hq List.not_mem_nil
  | [], _ :: _, h, _, _ => h.elim
  | _ :: _, [], h, _, _ => h.elim
  | x :: a, y :: b, h, q, hq => by
    rcases List.mem_cons.mp hq with rfl | hq
    · refine ⟨x, List.mem_cons_self, fun D cl H h1 => ?_⟩
      rcases h.1 with e | ⟨c, n, ty, f, f', rfl, rfl, hf⟩
      · rw [← e]; exact h1
      · have h1 : H[c]? = some (vp_cell ty (n, .inr (.inr (.inr (.inr f))))) := h1
        show H[c]? = some (vp_cell ty (n, .inr (.inr (.inr (.inr f')))))
        rw [h1, vp_cell_q, vp_cell_q]
        unfold arrV
        congr 3
        funext j
        show va_rf (f j.val) = va_rf (f' j.val)
        rw [hf j.val j.isLt]
    · obtain ⟨q', h1, h2⟩ := zEv_mem h.2 q hq
      exact ⟨q', List.mem_cons_of_mem _ h1, h2⟩
theorem zEv_Kh {s : State} {dC : Nat → ClassId} {dI : Nat → Nat → Nat} {A : Nat → Prop} {w1 w2 : va_W} {H : Heap} {locs : List Loc} (h : zEv w1 w2) (hh : zkKh s dC dI A w1 H locs) : zkKh s dC dI A w2 H locs := by
  refine ⟨fun k q hq => ?_, zkD_fst (zEv_fst h) hh.2.1, hh.2.2⟩
  obtain ⟨q', h1, h2⟩ := zEv_mem h q (List.mem_of_getElem? hq)
  obtain ⟨i, hi⟩ := List.getElem?_of_mem h1
  exact h2 _ _ _ (hh.1 i q' hi)
/-- the fresh memory -/
def zμn : zM := fun t i k => if t = 2 ∧ i = 0 ∧ k = 6 then -1 else if t = 9 ∧ i = 0 ∧ k = 11 then -1 else 0
/-- the addresses -/
def zlfa (gA gB : Nat → Nat) (gP gI : Nat → Nat → Nat) (i : Nat) : Nat → Nat := if i = 0 then gA else if i = 1 then gB else if i < 32 then gP (i - 2) else gI (i - 32)
def zadr (b : Nat) (S : Nat → Nat → Nat) (gA gB : Nat → Nat) (gP gI : Nat → Nat → Nat) (a : Nat → Nat) (t i : Nat) : Nat :=
  if t = 4 then zlfa gA gB gP gI i 0 else if 15 ≤ t ∧ t ≤ 19 then zlfa gA gB gP gI i (t - 14) else if t = 0 then b else if t = 9 then a 0 else if 33 ≤ t then a (zgd [1, 3, 5, 6, 7, 8, 9, 10, 11, 12, 13] (t - 33) 0 + i) else S t i
def zky (i : Nat) : List (Nat × Nat) := [(4, i), (15, i), (16, i), (17, i), (18, i), (19, i)]
def zkeyA : List (Nat × Nat) := [(1, 0)]
def zkeyB : List (Nat × Nat) := [(2, 0), (3, 1), (10, 1), (11, 1), (12, 1), (13, 1), (14, 1), (20, 0)]
def zkeyC : List (Nat × Nat) := [(3, 0), (10, 0), (11, 0), (12, 0), (13, 0), (14, 0)]
def zkeyP : List (Nat × Nat) := (5, 0) :: (21, 0) :: ([] ++ (List.range 30).flatMap fun j => zky (j + 2))
def zkeyI : List (Nat × Nat) := (6, 0) :: (22, 0) :: ([(23, 0)] ++ (List.range 2).flatMap fun j => zky (j + 32))
def zkeyS : List (Nat × Nat) := [(7, 0), (24, 0), (25, 0), (26, 0), (27, 0), (28, 0), (29, 0), (30, 0)]
def zkeyO : List (Nat × Nat) := [(8, 0), (31, 0), (32, 0)]
def zkeyM : List (Nat × Nat) := [(9, 0), (33, 0), (33, 1), (34, 0), (34, 1), (35, 0), (36, 0), (37, 0), (38, 0), (39, 0), (40, 0), (41, 0), (42, 0), (43, 0)]
def zkeys : List (Nat × Nat) := ([] ++ ((1, 0) :: (((((((([] ++ zkeyB) ++ zkeyC) ++ zky 0) ++ zky 1) ++ zkeyP) ++ zkeyI) ++ zkeyS) ++ zkeyO))) ++ zkeyM
theorem zkeys_all : ∀ x ∈ zob, x ∈ zkeys := by decide +kernel
def zFw (ad : Nat → Nat → Nat) (tyI tyZ tyL : ClassId) (q : Nat × Nat) : Nat × va_E := (ad q.1 q.2, zcl ad tyI tyZ tyL zμn q)
section
variable {b : Nat} {S : Nat → Nat → Nat} {gA gB : Nat → Nat} {gP gI : Nat → Nat → Nat} {a : Nat → Nat} {tyI tyZ tyL : ClassId}
theorem zw_life (i : Nat) : zlfW tyI (S 3 0) (zlfa gA gB gP gI i) = (zky i).map (zFw (zadr b S gA gB gP gI a) tyI tyZ tyL) := rfl
theorem zw_reader : zrdW tyI (fun j => zgd [S 2 0, S 3 1, S 10 1, S 11 1, S 12 1, S 13 1, S 14 1, S 20 0] j 0) = zkeyB.map (zFw (zadr b S gA gB gP gI a) tyI tyZ tyL) := rfl
theorem zw_house : zhsW tyI (fun j => zgd [S 3 0, S 10 0, S 11 0, S 12 0, S 13 0, S 14 0] j 0) = zkeyC.map (zFw (zadr b S gA gB gP gI a) tyI tyZ tyL) := rfl
theorem zw_sight : zsiW tyI (fun j => zgd [S 7 0, S 24 0, S 25 0, S 26 0, S 27 0, S 28 0, S 29 0, S 30 0] j 0) = zkeyS.map (zFw (zadr b S gA gB gP gI a) tyI tyZ tyL) := rfl
theorem zw_order : zorW tyI (fun j => zgd [S 8 0, S 31 0, S 32 0] j 0) = zkeyO.map (zFw (zadr b S gA gB gP gI a) tyI tyZ tyL) := rfl
theorem zw_model : zmdW tyI tyZ a = zkeyM.map (zFw (zadr b S gA gB gP gI a) tyI tyZ tyL) := rfl
theorem zw_rg {n o : Nat} {g : Nat → Nat → Nat} (h : ∀ j, j < n → g j = zlfa gA gB gP gI (j + o)) : zrgw n (fun j => zlfW tyI (S 3 0) (g j)) = ((List.range n).flatMap fun j => zky (j + o)).map (zFw (zadr b S gA gB gP gI a) tyI tyZ tyL) := by
  rw [zrgw_cg (G := fun j => (zky (j + o)).map (zFw (zadr b S gA gB gP gI a) tyI tyZ tyL)) (fun j hj => by rw [h j hj]; exact zw_life (j + o))]
  unfold zrgw
  rw [List.map_flatMap]
theorem zla_P {j : Nat} (h : j < 30) : gP j = zlfa gA gB gP gI (j + 2) := by
  unfold zlfa
  rw [if_neg (by omega), if_neg (by omega), if_pos (by omega)]
  rfl
theorem zla_I {j : Nat} : gI j = zlfa gA gB gP gI (j + 32) := by
  unfold zlfa
  rw [if_neg (by omega), if_neg (by omega), if_neg (by omega)]
  rfl
theorem zw_past : zEv (zpaW tyI tyL (S 3 0) (S 5 0) (S 21 0) gP) (zkeyP.map (zFw (zadr b S gA gB gP gI a) tyI tyZ tyL)) := by
  refine zEv_same (S 5 0, .inr (zci 5, [.ref (S 21 0), .int 0, .int 0])) (zEv_arr (S 21 0) 30 tyL _ (fun k => some (zadr b S gA gB gP gI a 4 (2 + k))) (fun j hj => ?_) ?_)
  · show some (gP j 0) = some (zlfa gA gB gP gI (2 + j) 0)
    rw [Nat.add_comm, ← zla_P hj]
  · show zEv ([] ++ _) (List.map _ ([] ++ _))
    rw [List.nil_append, List.nil_append, zw_rg (fun j hj => zla_P hj)]
    exact zEv_rf _
theorem zw_images : zEv (zimW tyI tyL (S 3 0) (S 6 0) (S 22 0) (S 23 0) gI) (zkeyI.map (zFw (zadr b S gA gB gP gI a) tyI tyZ tyL)) := by
  refine zEv_same (S 6 0, .inr (zci 6, [.ref (S 22 0), .ref (S 23 0), .int 0])) (zEv_arr (S 22 0) 2 tyL _ (fun k => some (zadr b S gA gB gP gI a 4 (32 + k))) (fun j hj => ?_) ?_)
  · show some (gI j 0) = some (zlfa gA gB gP gI (32 + j) 0)
    rw [Nat.add_comm, ← zla_I]
  · rw [List.map_append, zw_rg (fun j _ => zla_I)]
    exact zEv_rf _
theorem zw_all : zEv (([] ++ zmwW tyI tyL S gA gB gP gI) ++ zmdW tyI tyZ a) (zkeys.map (zFw (zadr b S gA gB gP gI a) tyI tyZ tyL)) := by
  unfold zkeys
  rw [List.map_append, List.map_append]
  refine zEv_app (zEv_app zEv_nil (zEv_same (S 1 0, .inr (zci 1, [.ref (S 2 0), .ref (S 3 0), .ref (gA 0), .ref (gB 0), .ref (S 5 0), .ref (S 6 0), .ref (S 7 0), .ref (S 8 0), .int 0])) ?_)) ?_
  · rw [List.map_append, List.map_append, List.map_append, List.map_append, List.map_append, List.map_append, List.map_append, List.map_append]
    refine zEv_app (zEv_app (zEv_app (zEv_app (zEv_app (zEv_app (zEv_app (zEv_app zEv_nil ?_) ?_) ?_) ?_) zw_past) zw_images) ?_) ?_
    · rw [← zw_reader]; exact zEv_rf _
    · rw [← zw_house]; exact zEv_rf _
    · rw [← zw_life]; exact zEv_rf _
    · rw [← zw_life]; exact zEv_rf _
    · rw [← zw_sight]; exact zEv_rf _
    · rw [← zw_order]; exact zEv_rf _
  · rw [← zw_model]; exact zEv_rf _
end
theorem zw_fin {s : State} {dC : Nat → ClassId} {dI : Nat → Nat → Nat} {A : Nat → Prop} {H : Heap} {locs : List Loc} {ad : Nat → Nat → Nat} {tyI tyZ tyL : ClassId} (hh : zkKh s dC dI A (zkeys.map (zFw ad tyI tyZ tyL)) H locs) : va_P (dC, dI) vwCl (zwd ad tyI tyZ tyL zμn) H ∧ va_D A (zwd ad tyI tyZ tyL zμn) := by
  obtain ⟨hP, hD, hS⟩ := hh
  have key : ∀ (k : Nat) (q : Nat × va_E), (zwd ad tyI tyZ tyL zμn)[k]? = some q → ∃ (x : Nat × Nat) (i : Nat), zob[k]? = some x ∧ zkeys[i]? = some x ∧ q = zFw ad tyI tyZ tyL x ∧ (zkeys.map (zFw ad tyI tyZ tyL))[i]? = some q := by
    intro k q hq
    unfold zwd at hq
    rw [List.getElem?_map] at hq
    cases hx : zob[k]? with
    | none => rw [hx] at hq; cases hq
    | some x =>
      rw [hx] at hq
      obtain rfl := Option.some.inj hq
      obtain ⟨i, hi⟩ := List.getElem?_of_mem (zkeys_all x (List.mem_of_getElem? hx))
      exact ⟨x, i, rfl, hi, rfl, by rw [List.getElem?_map, hi]; rfl⟩
  refine ⟨fun k q hq => ?_, fun i j p q hp hq e => ?_, fun k q hq => ?_⟩
  · obtain ⟨x, i, -, -, -, h⟩ := key k q hq
    exact hP i q h
  · obtain ⟨x, i', h1, h2, -, h3⟩ := key i p hp
    obtain ⟨y, j', g1, g2, -, g3⟩ := key j q hq
    have hij := hD.1 i' j' p q h3 g3 e
    subst hij
    rw [h2] at g2
    obtain rfl := Option.some.inj g2
    exact (List.getElem?_inj (List.getElem?_eq_some_iff.mp h1).1 zob_nd).mp (h1.trans g1.symm)
  · obtain ⟨x, i, -, -, -, h⟩ := key k q hq
    exact hD.2 i q h
theorem zμn_mo : zmo zμn := by
  intro t i k
  have h : zμn t i k = 0 ∨ (zμn t i k = -1 ∧ ((t = 2 ∧ k = 6) ∨ (t = 9 ∧ k = 11))) := by
    unfold zμn
    by_cases h1 : t = 2 ∧ i = 0 ∧ k = 6
    · rw [if_pos h1]; exact Or.inr ⟨rfl, Or.inl ⟨h1.1, h1.2.2⟩⟩
    · rw [if_neg h1]
      by_cases h2 : t = 9 ∧ i = 0 ∧ k = 11
      · rw [if_pos h2]; exact Or.inr ⟨rfl, Or.inr ⟨h2.1, h2.2.2⟩⟩
      · rw [if_neg h2]; exact Or.inl rfl
  rcases h with h | ⟨h, h2⟩
  · rw [h]; exact ⟨fun _ => z_zero, fun _ => Or.inl rfl, fun _ => ⟨by omega, by omega⟩⟩
  · rw [h]
    refine ⟨fun _ => ⟨by omega, by omega⟩, fun hk => ?_, fun _ => ⟨by omega, by omega⟩⟩
    rcases h2 with ⟨rfl, rfl⟩ | ⟨rfl, rfl⟩
    · exact absurd hk (by decide)
    · exact absurd hk (by decide)
theorem zμn_z {t i k : Nat} (h : ¬ (t = 2 ∧ i = 0 ∧ k = 6)) (h2 : ¬ (t = 9 ∧ i = 0 ∧ k = 11)) : zμn t i k = 0 := by
  unfold zμn
  rw [if_neg h, if_neg h2]
theorem zμn_rel : zRel zμn := by
  refine zRel_new (R := fun _ => 0) (v := 0) (X := 0) zRI_0 (Or.inl rfl) (fun _ => rfl) rfl rfl rfl rfl rfl ⟨?_, fun r hr => ?_⟩ (fun r _ h => absurd h (by omega)) (fun k _ => ⟨rfl, rfl⟩) (fun p w _ h => absurd h (by omega)) (fun w c _ h => absurd h (by omega)) (fun k _ => rfl) rfl rfl rfl rfl (fun k _ => rfl) (fun p _ h => absurd h (by omega)) (fun k _ => ?_) rfl rfl rfl rfl rfl (by omega) rfl rfl rfl rfl rfl ⟨by decide, by decide⟩ rfl rfl rfl rfl
  · exact ⟨by decide, by decide⟩
  · show (0 : Int) = if zbit 0 r = true then 1 else 0
    rcases (show r = 0 ∨ r = 1 ∨ r = 2 ∨ r = 3 ∨ r = 4 ∨ r = 5 by omega) with rfl | rfl | rfl | rfl | rfl | rfl <;> decide
  · show (0 : Int) = _
    simp
