/-! AN HOUR keeps the bounds -/
theorem zhrS_ok {n : Nat} {B : Nat → Nat} {nP nW D : Nat} (P U : Nat → Int) (W : Nat → Nat → Int) (hp5 : nP ≤ 5) (hw6 : nW ≤ 6) (hn6 : n ≤ 6) (hB : ∀ r, r < n → 1 ≤ B r ∧ B r ≤ 12) {S : zST} {M : Nat} (o : zOK n B nP S M) (ho : S 0 0 < 100000) : zOK n B nP (zhrS P U B W n nP nW D (S, M)).1 (zhrS P U B W n nP nW D (S, M)).2 ∧ (zhrS P U B W n nP nW D (S, M)).1 0 0 = S 0 0 + 1 ∧ M ≤ (zhrS P U B W n nP nW D (S, M)).2 ∧ (zhrS P U B W n nP nW D (S, M)).2 ≤ M + 150 := by
  have ok1 := zwkS_ok P U o nP (Nat.le_refl _)
  have hs : zgdS (zwkS P U B S nP) M (zwkS P U B S nP, M) 0 := ⟨fun _ _ _ _ => rfl, ok1.2.1, Nat.le_refl _, Nat.le_refl _, ok1.2.2.2.1⟩
  have hg := zmew_g (T := zTT W (zwkS P U B S nP)) hp5 hs nW hw6
  have h00 : zwkS P U B S nP 0 0 = S 0 0 := zwkS_o _ _ _ _ _ _ _ (by omega)
  show zOK n B nP (zdmS D n B (zuS (zmew (zTT W (zwkS P U B S nP)) nP (zwkS P U B S nP, M) nW).1 0 0 (S 0 0 + 1)) (S 0 0 + 1).toNat) (zmew (zTT W (zwkS P U B S nP)) nP (zwkS P U B S nP, M) nW).2 ∧ zdmS D n B (zuS (zmew (zTT W (zwkS P U B S nP)) nP (zwkS P U B S nP, M) nW).1 0 0 (S 0 0 + 1)) (S 0 0 + 1).toNat 0 0 = S 0 0 + 1 ∧ M ≤ (zmew (zTT W (zwkS P U B S nP)) nP (zwkS P U B S nP, M) nW).2 ∧ (zmew (zTT W (zwkS P U B S nP)) nP (zwkS P U B S nP, M) nW).2 ≤ M + 150
  generalize zwkS P U B S nP = S1 at ok1 hs hg h00 ⊢
  generalize zmew (zTT W S1) nP (S1, M) nW = s2 at hg ⊢
  obtain ⟨g1, g2, g3, g4, g5⟩ := hg
  obtain ⟨o1, o2, o3, o4, o5, o6⟩ := ok1
  have o7 := o.1
  have o8 := o.2.2.1
  have base : zOK n B nP (zuS s2.1 0 0 (S 0 0 + 1)) s2.2 := by
    refine ⟨by rw [zuS_i]; omega, by rw [zuS_o (by omega)]; exact g2, by rw [zuS_i]; omega, fun k q1 q2 => by rw [zuS_o (by omega)]; exact g5 k q1 q2, fun x hx => by rw [zuS_o (by omega), g1 3 x (by omega) (by omega)]; exact o5 x hx, fun x hx => by rw [zuS_o (by omega), zuS_o (by omega), zuS_o (by omega), g1 4 x (by omega) (by omega), g1 5 x (by omega) (by omega), g1 6 x (by omega) (by omega)]; exact o6 x hx⟩
  refine ⟨?_, ?_, g3, by omega⟩
  · unfold zdmS
    split
    · exact base
    · have hr := Nat.mod_lt ((S 0 0 + 1).toNat / D - 1) (show 0 < n by omega)
      have hb := hB _ hr
      have hm := Nat.mod_lt (((S 0 0 + 1).toNat / D - 1) / n) (show 0 < B (((S 0 0 + 1).toNat / D - 1) % n) by omega)
      exact zOK_3 base hr (z_on12 (base.2.2.2.2.1 _ (by omega)).1 (by omega))
  · unfold zdmS
    split
    · exact zuS_i _ _ _ _
    · rw [zuS_o (by omega), zuS_i]
