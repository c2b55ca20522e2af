/-! THE CONSTRUCTORS of the past, the images and the whole class, by program -/
def zpaW (tyI tyL : ClassId) (hs h0 a : Nat) (g : Nat → Nat → Nat) : va_W := (h0, .inr (zci 5, [.ref a, .int 0, .int 0])) :: (a, zra 30 tyL fun j => some (g j 0)) :: ([] ++ zrgw 30 fun j => zlfW tyI hs (g j))
theorem zdf_5 : zdf 5 = [.null, .int 0, .int 0] := by rfl
theorem con_X6 (l : Launch) (hs : Nat) : zkMt l yX6_init cX6_init 3 2 181 1530 5 [.ref hs] (fun tyI tyZ tyL h0 u => ∃ (a : Nat) (g : Nat → Nat → Nat), u = zpaW tyI tyL hs h0 a g) := by
  refine zk_met (by decide) rfl rfl (fun _ => Nat.le_of_ble_eq_true rfl) ?_
  intro p e s m args below meth c dC dI tyI tyZ tyL A h0 ls Q X hin hl hh kk
  rw [zdf_5] at hh
  refine zk_obj (index := 3) X hl.1 (lv_at hl 0 rfl) (zat_in (p := 229) (by decide +kernel)) ⟨by decide, by decide⟩ (by decide +kernel) (by decide +kernel) ?_
  refine lv_aload_n (k := 0) (i := 0) X.1.1 X.1.2.1 (by decide +kernel) rfl (lv_at hl 0 rfl) ?_
  refine zk_push (n := ((30 : Nat) : Int)) (w := 2) X (by decide +kernel) ?_
  refine zk_newl (n := 30) (index := 9) X hh (by decide) (zat_in (p := 230) (by decide +kernel)) (by decide +kernel) ⟨(Nat.le_of_ble_eq_true rfl), (Nat.le_of_ble_eq_true rfl)⟩ (fun q1 H hh => ?_)
  refine zk_put (t := 5) (k := 0) (ix := 11) ⟨by decide, by decide⟩ X hin hh (by decide +kernel) (Nat.le_of_ble_eq_true rfl) (zat_in (p := 233) (by decide +kernel)) rfl rfl (by decide +kernel) (fun H locs hh => ?_)
  have hh : zkKh s dC dI A ((h0, .inr (zci 5, [.ref q1, .int 0, .int 0])) :: [(q1, zra 30 tyL fun _ => none)]) H locs := hh
  refine zk_int (t := 5) (k := 1) (ix := 17) (w := 1) (n := 0) ⟨by decide, by decide⟩ X hin (lv_at hl 0 rfl) hh ⟨by decide +kernel, by decide +kernel⟩ (Nat.le_of_ble_eq_true rfl) (zat_in (p := 234) (by decide +kernel)) (by decide +kernel) (by decide +kernel) (by decide +kernel) (fun H locs hh => ?_)
  have hh : zkKh s dC dI A ((h0, .inr (zci 5, [.ref q1, .int 0, .int 0])) :: [(q1, zra 30 tyL fun _ => none)]) H locs := hh
  refine zk_int (t := 5) (k := 2) (ix := 21) (w := 1) (n := 0) ⟨by decide, by decide⟩ X hin (lv_at hl 0 rfl) hh ⟨by decide +kernel, by decide +kernel⟩ (Nat.le_of_ble_eq_true rfl) (zat_in (p := 235) (by decide +kernel)) (by decide +kernel) (by decide +kernel) (by decide +kernel) (fun H locs hh => ?_)
  have hh : zkKh s dC dI A ((h0, .inr (zci 5, [.ref q1, .int 0, .int 0])) :: (q1, zra 30 tyL fun _ => none) :: ([] ++ zrgw 0 fun j => zlfW tyI hs ((fun _ _ => 0) j))) H locs := hh
  refine zk_push (n := 0) (w := 1) X (by decide +kernel) ?_
  refine lv_istore_n (k := 2) (i := 2) X.1.1 X.1.2.1 (by decide +kernel) rfl hl (by decide) rfl (fun ls hl => ?_)
  refine zk_loop (t := 5) (n := 30) (h := 25) (b := 31) (a := q1) (hs := hs) (c0 := 1) (s0 := 30) (ix := 11) (ixc := 9) (ixm := 24) (off2 := -26) (ws := []) ⟨by decide, by decide⟩ (by decide) X rfl rfl (by decide +kernel) (zat_in (p := 233) (by decide +kernel)) (zat_in (p := 230) (by decide +kernel)) (zat_in (p := 232) (by decide +kernel)) (by decide +kernel) (by decide +kernel) (by decide +kernel) (by decide +kernel) (by decide +kernel) (by decide +kernel) (by decide +kernel) (by decide +kernel) (by decide +kernel) (by decide +kernel) (by decide +kernel) (by decide +kernel) (by decide +kernel) (by decide +kernel) (by decide +kernel) (by decide) ⟨by decide, by decide, by decide, by decide⟩ (fun f g H locs ls hh hf => ?_) 30 0 rfl (fun _ => none) (fun _ _ => 0) H locs ls hh (fun j hj => absurd hj (Nat.not_lt_zero j)) hl
  exact kk _ _ _ _ _ ⟨q1, g, rfl⟩ (zk_ext hh hf) (by decide +kernel)
def zimW (tyI tyL : ClassId) (hs h0 a b : Nat) (g : Nat → Nat → Nat) : va_W := (h0, .inr (zci 6, [.ref a, .ref b, .int 0])) :: (a, zra 2 tyL fun j => some (g j 0)) :: ([(b, zia 2 tyI)] ++ zrgw 2 fun j => zlfW tyI hs (g j))
theorem zdf_6 : zdf 6 = [.null, .null, .int 0] := by rfl
theorem con_X2 (l : Launch) (hs : Nat) : zkMt l yX2_init cX2_init 3 2 14 104 6 [.ref hs] (fun tyI tyZ tyL h0 u => ∃ (a b : Nat) (g : Nat → Nat → Nat), u = zimW tyI tyL hs h0 a b g) := by
  refine zk_met (by decide) rfl rfl (fun _ => Nat.le_of_ble_eq_true rfl) ?_
  intro p e s m args below meth c dC dI tyI tyZ tyL A h0 ls Q X hin hl hh kk
  rw [zdf_6] at hh
  refine zk_obj (index := 3) X hl.1 (lv_at hl 0 rfl) (zat_in (p := 248) (by decide +kernel)) ⟨by decide, by decide⟩ (by decide +kernel) (by decide +kernel) ?_
  refine lv_aload_n (k := 0) (i := 0) X.1.1 X.1.2.1 (by decide +kernel) rfl (lv_at hl 0 rfl) ?_
  refine zk_push (n := ((2 : Nat) : Int)) (w := 1) X (by decide +kernel) ?_
  refine zk_newl (n := 2) (index := 9) X hh (by decide) (zat_in (p := 249) (by decide +kernel)) (by decide +kernel) ⟨(Nat.le_of_ble_eq_true rfl), (Nat.le_of_ble_eq_true rfl)⟩ (fun q1 H hh => ?_)
  refine zk_put (t := 6) (k := 0) (ix := 11) ⟨by decide, by decide⟩ X hin hh (by decide +kernel) (Nat.le_of_ble_eq_true rfl) (zat_in (p := 251) (by decide +kernel)) rfl rfl (by decide +kernel) (fun H locs hh => ?_)
  have hh : zkKh s dC dI A ((h0, .inr (zci 6, [.ref q1, .null, .int 0])) :: [(q1, zra 2 tyL fun _ => none)]) H locs := hh
  refine zk_arr (t := 6) (k := 1) (ix := 17) (w := 1) (n := 2) ⟨by decide, by decide⟩ X hin (lv_at hl 0 rfl) hh ⟨by decide +kernel, by decide +kernel⟩ (Nat.le_of_ble_eq_true rfl) (zat_in (p := 252) (by decide +kernel)) (by decide) (by decide +kernel) (by decide +kernel) (by decide +kernel) (by decide +kernel) ⟨(Nat.le_of_ble_eq_true rfl), (Nat.le_of_ble_eq_true rfl)⟩ (fun q2 H locs hh => ?_)
  have hh : zkKh s dC dI A ((h0, .inr (zci 6, [.ref q1, .ref q2, .int 0])) :: [(q1, zra 2 tyL fun _ => none), (q2, zia 2 tyI)]) H locs := hh
  refine zk_int (t := 6) (k := 2) (ix := 21) (w := 1) (n := 0) ⟨by decide, by decide⟩ X hin (lv_at hl 0 rfl) hh ⟨by decide +kernel, by decide +kernel⟩ (Nat.le_of_ble_eq_true rfl) (zat_in (p := 253) (by decide +kernel)) (by decide +kernel) (by decide +kernel) (by decide +kernel) (fun H locs hh => ?_)
  have hh : zkKh s dC dI A ((h0, .inr (zci 6, [.ref q1, .ref q2, .int 0])) :: (q1, zra 2 tyL fun _ => none) :: ([(q2, zia 2 tyI)] ++ zrgw 0 fun j => zlfW tyI hs ((fun _ _ => 0) j))) H locs := hh
  refine zk_push (n := 0) (w := 1) X (by decide +kernel) ?_
  refine lv_istore_n (k := 2) (i := 2) X.1.1 X.1.2.1 (by decide +kernel) rfl hl (by decide) rfl (fun ls hl => ?_)
  refine zk_loop (t := 6) (n := 2) (h := 26) (b := 32) (a := q1) (hs := hs) (c0 := 2) (s0 := 4) (ix := 11) (ixc := 9) (ixm := 25) (off2 := -26) (ws := [(q2, zia 2 tyI)]) ⟨by decide, by decide⟩ (by decide) X rfl rfl (by decide +kernel) (zat_in (p := 251) (by decide +kernel)) (zat_in (p := 249) (by decide +kernel)) (zat_in (p := 250) (by decide +kernel)) (by decide +kernel) (by decide +kernel) (by decide +kernel) (by decide +kernel) (by decide +kernel) (by decide +kernel) (by decide +kernel) (by decide +kernel) (by decide +kernel) (by decide +kernel) (by decide +kernel) (by decide +kernel) (by decide +kernel) (by decide +kernel) (by decide +kernel) (by decide) ⟨by decide, by decide, by decide, by decide⟩ (fun f g H locs ls hh hf => ?_) 2 0 rfl (fun _ => none) (fun _ _ => 0) H locs ls hh (fun j hj => absurd hj (Nat.not_lt_zero j)) hl
  exact kk _ _ _ _ _ ⟨q1, q2, g, rfl⟩ (zk_ext hh hf) (by decide +kernel)
def zmwW (tyI tyL : ClassId) (S : Nat → Nat → Nat) (gA gB : Nat → Nat) (gP gI : Nat → Nat → Nat) : va_W := (S 1 0, .inr (zci 1, [.ref (S 2 0), .ref (S 3 0), .ref (gA 0), .ref (gB 0), .ref (S 5 0), .ref (S 6 0), .ref (S 7 0), .ref (S 8 0), .int 0])) :: (((((((([] ++ zrdW tyI (fun j => zgd [S 2 0, S 3 1, S 10 1, S 11 1, S 12 1, S 13 1, S 14 1, S 20 0] j 0)) ++ zhsW tyI (fun j => zgd [S 3 0, S 10 0, S 11 0, S 12 0, S 13 0, S 14 0] j 0)) ++ zlfW tyI (S 3 0) gA) ++ zlfW tyI (S 3 0) gB) ++ zpaW tyI tyL (S 3 0) (S 5 0) (S 21 0) gP) ++ zimW tyI tyL (S 3 0) (S 6 0) (S 22 0) (S 23 0) gI) ++ zsiW tyI (fun j => zgd [S 7 0, S 24 0, S 25 0, S 26 0, S 27 0, S 28 0, S 29 0, S 30 0] j 0)) ++ zorW tyI (fun j => zgd [S 8 0, S 31 0, S 32 0] j 0))
theorem zdf_1 : zdf 1 = [.null, .null, .null, .null, .null, .null, .null, .null, .int 0] := by rfl
theorem con_X11 (l : Launch) : zkMt l yX11_init cX11_init 1 3 234 3044 1 [] (fun tyI tyZ tyL h0 u => ∃ (S : Nat → Nat → Nat) (gA gB : Nat → Nat) (gP gI : Nat → Nat → Nat), S 1 0 = h0 ∧ u = zmwW tyI tyL S gA gB gP gI) := by
  refine zk_met (by decide) rfl rfl (fun _ => Nat.le_of_ble_eq_true rfl) ?_
  intro p e s m args below meth c dC dI tyI tyZ tyL A h0 ls Q X hin hl hh kk
  rw [zdf_1] at hh
  refine zk_obj (index := 1) X hl.1 (lv_at hl 0 rfl) (zat_in (p := 87) (by decide +kernel)) ⟨by decide, by decide⟩ (by decide +kernel) (by decide +kernel) ?_
  refine lv_aload_n (k := 0) (i := 0) X.1.1 X.1.2.1 (by decide +kernel) rfl (lv_at hl 0 rfl) ?_
  refine zk_new (t := 2) (index := 7) ⟨by decide, by decide⟩ X hh ⟨(zat_in (p := 90) (by decide +kernel)), (zat_in (p := 91) (by decide +kernel)), (zat_in (p := 66) (by decide +kernel))⟩ (by decide +kernel) ⟨(Nat.le_of_ble_eq_true rfl), (Nat.le_of_ble_eq_true rfl)⟩ (fun q1 H hh => ?_)
  refine lv_dup X.1.1 X.1.2.1 (by decide +kernel) rfl ?_
  refine zk_inv (ix := 9) (as := []) X (con_X7 l) hh (.inr (by decide +kernel)) ⟨(zat_in (p := 94) (by decide +kernel)), (zat_in (p := 66) (by decide +kernel)), (zat_in (p := 93) (by decide +kernel))⟩ rfl (by decide +kernel) ⟨(Nat.le_of_ble_eq_true rfl), (Nat.le_of_ble_eq_true rfl)⟩ hl.1 (Nat.le_of_ble_eq_true rfl) (by decide +kernel) ⟨(Nat.le_of_ble_eq_true rfl), (Nat.le_of_ble_eq_true rfl)⟩ (fun u H locs hu hh => ?_)
  obtain ⟨a1, hq1, rfl⟩ := hu
  have hh : zkKh s dC dI A ((h0, .inr (zci 1, [.null, .null, .null, .null, .null, .null, .null, .null, .int 0])) :: ([] ++ zrdW tyI a1)) H locs := hh
  refine zk_put (t := 1) (k := 0) (ix := 10) ⟨by decide, by decide⟩ X hin hh (by decide +kernel) (Nat.le_of_ble_eq_true rfl) (zat_in (p := 314) (by decide +kernel)) rfl rfl (by decide +kernel) (fun H locs hh => ?_)
  have hh : zkKh s dC dI A ((h0, .inr (zci 1, [.ref q1, .null, .null, .null, .null, .null, .null, .null, .int 0])) :: ([] ++ zrdW tyI a1)) H locs := hh
  refine lv_aload_n (k := 0) (i := 0) X.1.1 X.1.2.1 (by decide +kernel) rfl (lv_at hl 0 rfl) ?_
  refine zk_new (t := 3) (index := 16) ⟨by decide, by decide⟩ X hh ⟨(zat_in (p := 179) (by decide +kernel)), (zat_in (p := 97) (by decide +kernel)), (zat_in (p := 67) (by decide +kernel))⟩ (by decide +kernel) ⟨(Nat.le_of_ble_eq_true rfl), (Nat.le_of_ble_eq_true rfl)⟩ (fun q2 H hh => ?_)
  refine lv_dup X.1.1 X.1.2.1 (by decide +kernel) rfl ?_
  refine zk_inv (ix := 18) (as := []) X (con_X1 l) hh (.inr (by decide +kernel)) ⟨(zat_in (p := 100) (by decide +kernel)), (zat_in (p := 67) (by decide +kernel)), (zat_in (p := 99) (by decide +kernel))⟩ rfl (by decide +kernel) ⟨(Nat.le_of_ble_eq_true rfl), (Nat.le_of_ble_eq_true rfl)⟩ hl.1 (Nat.le_of_ble_eq_true rfl) (by decide +kernel) ⟨(Nat.le_of_ble_eq_true rfl), (Nat.le_of_ble_eq_true rfl)⟩ (fun u H locs hu hh => ?_)
  obtain ⟨a2, hq2, rfl⟩ := hu
  have hh : zkKh s dC dI A ((h0, .inr (zci 1, [.ref q1, .null, .null, .null, .null, .null, .null, .null, .int 0])) :: (([] ++ zrdW tyI a1) ++ zhsW tyI a2)) H locs := hh
  refine zk_put (t := 1) (k := 1) (ix := 19) ⟨by decide, by decide⟩ X hin hh (by decide +kernel) (Nat.le_of_ble_eq_true rfl) (zat_in (p := 315) (by decide +kernel)) rfl rfl (by decide +kernel) (fun H locs hh => ?_)
  have hh : zkKh s dC dI A ((h0, .inr (zci 1, [.ref q1, .ref q2, .null, .null, .null, .null, .null, .null, .int 0])) :: (([] ++ zrdW tyI a1) ++ zhsW tyI a2)) H locs := hh
  refine lv_aload_n (k := 0) (i := 0) X.1.1 X.1.2.1 (by decide +kernel) rfl (lv_at hl 0 rfl) ?_
  refine zk_new (t := 4) (index := 23) ⟨by decide, by decide⟩ X hh ⟨(zat_in (p := 181) (by decide +kernel)), (zat_in (p := 182) (by decide +kernel)), (zat_in (p := 68) (by decide +kernel))⟩ (by decide +kernel) ⟨(Nat.le_of_ble_eq_true rfl), (Nat.le_of_ble_eq_true rfl)⟩ (fun q3 H hh => ?_)
  refine lv_dup X.1.1 X.1.2.1 (by decide +kernel) rfl ?_
  refine lv_aload_n (k := 0) (i := 0) X.1.1 X.1.2.1 (by decide +kernel) rfl (lv_at hl 0 rfl) ?_
  have hh : zkKh s dC dI A ((h0, .inr (zci 1, [.ref q1, .ref q2, .null, .null, .null, .null, .null, .null, .int 0])) :: ((([] ++ zrdW tyI a1) ++ zhsW tyI a2) ++ [(q3, .inr (zci 4, zdf 4))])) H locs := hh
  refine zk_get (t := 1) (k := 1) (ix := 19) ⟨by decide, by decide⟩ X hh (by decide +kernel) (zat_in (p := 315) (by decide +kernel)) rfl (by decide +kernel) ?_
  have hh : zkKh s dC dI A (((h0, .inr (zci 1, [.ref q1, .ref q2, .null, .null, .null, .null, .null, .null, .int 0])) :: (([] ++ zrdW tyI a1) ++ zhsW tyI a2)) ++ [(q3, .inr (zci 4, zdf 4))]) H locs := hh
  refine zk_inv (ix := 25) (as := [.ref q2]) X (con_X3 l q2) hh (.inl (zat_in (p := 183) (by decide +kernel))) ⟨(zat_in (p := 185) (by decide +kernel)), (zat_in (p := 68) (by decide +kernel)), (zat_in (p := 184) (by decide +kernel))⟩ rfl (show _ ∧ _ ∧ _ = some 1 from by decide +kernel) ⟨(Nat.le_of_ble_eq_true rfl), (Nat.le_of_ble_eq_true rfl)⟩ hl.1 (Nat.le_of_ble_eq_true rfl) (by decide +kernel) ⟨(Nat.le_of_ble_eq_true rfl), (Nat.le_of_ble_eq_true rfl)⟩ (fun u H locs hu hh => ?_)
  obtain ⟨a3, hq3, rfl⟩ := hu
  have hh : zkKh s dC dI A ((h0, .inr (zci 1, [.ref q1, .ref q2, .null, .null, .null, .null, .null, .null, .int 0])) :: ((([] ++ zrdW tyI a1) ++ zhsW tyI a2) ++ zlfW tyI q2 a3)) H locs := hh
  refine zk_put (t := 1) (k := 2) (ix := 28) ⟨by decide, by decide⟩ X hin hh (by decide +kernel) (Nat.le_of_ble_eq_true rfl) (zat_in (p := 316) (by decide +kernel)) rfl rfl (by decide +kernel) (fun H locs hh => ?_)
  have hh : zkKh s dC dI A ((h0, .inr (zci 1, [.ref q1, .ref q2, .ref q3, .null, .null, .null, .null, .null, .int 0])) :: ((([] ++ zrdW tyI a1) ++ zhsW tyI a2) ++ zlfW tyI q2 a3)) H locs := hh
  refine lv_aload_n (k := 0) (i := 0) X.1.1 X.1.2.1 (by decide +kernel) rfl (lv_at hl 0 rfl) ?_
  refine zk_new (t := 4) (index := 23) ⟨by decide, by decide⟩ X hh ⟨(zat_in (p := 181) (by decide +kernel)), (zat_in (p := 182) (by decide +kernel)), (zat_in (p := 68) (by decide +kernel))⟩ (by decide +kernel) ⟨(Nat.le_of_ble_eq_true rfl), (Nat.le_of_ble_eq_true rfl)⟩ (fun q4 H hh => ?_)
  refine lv_dup X.1.1 X.1.2.1 (by decide +kernel) rfl ?_
  refine lv_aload_n (k := 0) (i := 0) X.1.1 X.1.2.1 (by decide +kernel) rfl (lv_at hl 0 rfl) ?_
  have hh : zkKh s dC dI A ((h0, .inr (zci 1, [.ref q1, .ref q2, .ref q3, .null, .null, .null, .null, .null, .int 0])) :: (((([] ++ zrdW tyI a1) ++ zhsW tyI a2) ++ zlfW tyI q2 a3) ++ [(q4, .inr (zci 4, zdf 4))])) H locs := hh
  refine zk_get (t := 1) (k := 1) (ix := 19) ⟨by decide, by decide⟩ X hh (by decide +kernel) (zat_in (p := 315) (by decide +kernel)) rfl (by decide +kernel) ?_
  have hh : zkKh s dC dI A (((h0, .inr (zci 1, [.ref q1, .ref q2, .ref q3, .null, .null, .null, .null, .null, .int 0])) :: ((([] ++ zrdW tyI a1) ++ zhsW tyI a2) ++ zlfW tyI q2 a3)) ++ [(q4, .inr (zci 4, zdf 4))]) H locs := hh
  refine zk_inv (ix := 25) (as := [.ref q2]) X (con_X3 l q2) hh (.inl (zat_in (p := 183) (by decide +kernel))) ⟨(zat_in (p := 185) (by decide +kernel)), (zat_in (p := 68) (by decide +kernel)), (zat_in (p := 184) (by decide +kernel))⟩ rfl (show _ ∧ _ ∧ _ = some 1 from by decide +kernel) ⟨(Nat.le_of_ble_eq_true rfl), (Nat.le_of_ble_eq_true rfl)⟩ hl.1 (Nat.le_of_ble_eq_true rfl) (by decide +kernel) ⟨(Nat.le_of_ble_eq_true rfl), (Nat.le_of_ble_eq_true rfl)⟩ (fun u H locs hu hh => ?_)
  obtain ⟨a4, hq4, rfl⟩ := hu
  have hh : zkKh s dC dI A ((h0, .inr (zci 1, [.ref q1, .ref q2, .ref q3, .null, .null, .null, .null, .null, .int 0])) :: (((([] ++ zrdW tyI a1) ++ zhsW tyI a2) ++ zlfW tyI q2 a3) ++ zlfW tyI q2 a4)) H locs := hh
  refine zk_put (t := 1) (k := 3) (ix := 32) ⟨by decide, by decide⟩ X hin hh (by decide +kernel) (Nat.le_of_ble_eq_true rfl) (zat_in (p := 317) (by decide +kernel)) rfl rfl (by decide +kernel) (fun H locs hh => ?_)
  have hh : zkKh s dC dI A ((h0, .inr (zci 1, [.ref q1, .ref q2, .ref q3, .ref q4, .null, .null, .null, .null, .int 0])) :: (((([] ++ zrdW tyI a1) ++ zhsW tyI a2) ++ zlfW tyI q2 a3) ++ zlfW tyI q2 a4)) H locs := hh
  refine lv_aload_n (k := 0) (i := 0) X.1.1 X.1.2.1 (by decide +kernel) rfl (lv_at hl 0 rfl) ?_
  refine zk_new (t := 5) (index := 35) ⟨by decide, by decide⟩ X hh ⟨(zat_in (p := 224) (by decide +kernel)), (zat_in (p := 225) (by decide +kernel)), (zat_in (p := 69) (by decide +kernel))⟩ (by decide +kernel) ⟨(Nat.le_of_ble_eq_true rfl), (Nat.le_of_ble_eq_true rfl)⟩ (fun q5 H hh => ?_)
  refine lv_dup X.1.1 X.1.2.1 (by decide +kernel) rfl ?_
  refine lv_aload_n (k := 0) (i := 0) X.1.1 X.1.2.1 (by decide +kernel) rfl (lv_at hl 0 rfl) ?_
  have hh : zkKh s dC dI A ((h0, .inr (zci 1, [.ref q1, .ref q2, .ref q3, .ref q4, .null, .null, .null, .null, .int 0])) :: ((((([] ++ zrdW tyI a1) ++ zhsW tyI a2) ++ zlfW tyI q2 a3) ++ zlfW tyI q2 a4) ++ [(q5, .inr (zci 5, zdf 5))])) H locs := hh
  refine zk_get (t := 1) (k := 1) (ix := 19) ⟨by decide, by decide⟩ X hh (by decide +kernel) (zat_in (p := 315) (by decide +kernel)) rfl (by decide +kernel) ?_
  have hh : zkKh s dC dI A (((h0, .inr (zci 1, [.ref q1, .ref q2, .ref q3, .ref q4, .null, .null, .null, .null, .int 0])) :: (((([] ++ zrdW tyI a1) ++ zhsW tyI a2) ++ zlfW tyI q2 a3) ++ zlfW tyI q2 a4)) ++ [(q5, .inr (zci 5, zdf 5))]) H locs := hh
  refine zk_inv (ix := 37) (as := [.ref q2]) X (con_X6 l q2) hh (.inl (zat_in (p := 226) (by decide +kernel))) ⟨(zat_in (p := 228) (by decide +kernel)), (zat_in (p := 69) (by decide +kernel)), (zat_in (p := 227) (by decide +kernel))⟩ rfl (show _ ∧ _ ∧ _ = some 1 from by decide +kernel) ⟨(Nat.le_of_ble_eq_true rfl), (Nat.le_of_ble_eq_true rfl)⟩ hl.1 (Nat.le_of_ble_eq_true rfl) (by decide +kernel) ⟨(Nat.le_of_ble_eq_true rfl), (Nat.le_of_ble_eq_true rfl)⟩ (fun u H locs hu hh => ?_)
  obtain ⟨a5, g5, rfl⟩ := hu
  have hh : zkKh s dC dI A ((h0, .inr (zci 1, [.ref q1, .ref q2, .ref q3, .ref q4, .null, .null, .null, .null, .int 0])) :: ((((([] ++ zrdW tyI a1) ++ zhsW tyI a2) ++ zlfW tyI q2 a3) ++ zlfW tyI q2 a4) ++ zpaW tyI tyL q2 q5 a5 g5)) H locs := hh
  refine zk_put (t := 1) (k := 4) (ix := 38) ⟨by decide, by decide⟩ X hin hh (by decide +kernel) (Nat.le_of_ble_eq_true rfl) (zat_in (p := 318) (by decide +kernel)) rfl rfl (by decide +kernel) (fun H locs hh => ?_)
  have hh : zkKh s dC dI A ((h0, .inr (zci 1, [.ref q1, .ref q2, .ref q3, .ref q4, .ref q5, .null, .null, .null, .int 0])) :: ((((([] ++ zrdW tyI a1) ++ zhsW tyI a2) ++ zlfW tyI q2 a3) ++ zlfW tyI q2 a4) ++ zpaW tyI tyL q2 q5 a5 g5)) H locs := hh
  refine lv_aload_n (k := 0) (i := 0) X.1.1 X.1.2.1 (by decide +kernel) rfl (lv_at hl 0 rfl) ?_
  refine zk_new (t := 6) (index := 42) ⟨by decide, by decide⟩ X hh ⟨(zat_in (p := 243) (by decide +kernel)), (zat_in (p := 244) (by decide +kernel)), (zat_in (p := 70) (by decide +kernel))⟩ (by decide +kernel) ⟨(Nat.le_of_ble_eq_true rfl), (Nat.le_of_ble_eq_true rfl)⟩ (fun q6 H hh => ?_)
  refine lv_dup X.1.1 X.1.2.1 (by decide +kernel) rfl ?_
  refine lv_aload_n (k := 0) (i := 0) X.1.1 X.1.2.1 (by decide +kernel) rfl (lv_at hl 0 rfl) ?_
  have hh : zkKh s dC dI A ((h0, .inr (zci 1, [.ref q1, .ref q2, .ref q3, .ref q4, .ref q5, .null, .null, .null, .int 0])) :: (((((([] ++ zrdW tyI a1) ++ zhsW tyI a2) ++ zlfW tyI q2 a3) ++ zlfW tyI q2 a4) ++ zpaW tyI tyL q2 q5 a5 g5) ++ [(q6, .inr (zci 6, zdf 6))])) H locs := hh
  refine zk_get (t := 1) (k := 1) (ix := 19) ⟨by decide, by decide⟩ X hh (by decide +kernel) (zat_in (p := 315) (by decide +kernel)) rfl (by decide +kernel) ?_
  have hh : zkKh s dC dI A (((h0, .inr (zci 1, [.ref q1, .ref q2, .ref q3, .ref q4, .ref q5, .null, .null, .null, .int 0])) :: ((((([] ++ zrdW tyI a1) ++ zhsW tyI a2) ++ zlfW tyI q2 a3) ++ zlfW tyI q2 a4) ++ zpaW tyI tyL q2 q5 a5 g5)) ++ [(q6, .inr (zci 6, zdf 6))]) H locs := hh
  refine zk_inv (ix := 44) (as := [.ref q2]) X (con_X2 l q2) hh (.inl (zat_in (p := 245) (by decide +kernel))) ⟨(zat_in (p := 247) (by decide +kernel)), (zat_in (p := 70) (by decide +kernel)), (zat_in (p := 246) (by decide +kernel))⟩ rfl (show _ ∧ _ ∧ _ = some 1 from by decide +kernel) ⟨(Nat.le_of_ble_eq_true rfl), (Nat.le_of_ble_eq_true rfl)⟩ hl.1 (Nat.le_of_ble_eq_true rfl) (by decide +kernel) ⟨(Nat.le_of_ble_eq_true rfl), (Nat.le_of_ble_eq_true rfl)⟩ (fun u H locs hu hh => ?_)
  obtain ⟨a6, b6, g6, rfl⟩ := hu
  have hh : zkKh s dC dI A ((h0, .inr (zci 1, [.ref q1, .ref q2, .ref q3, .ref q4, .ref q5, .null, .null, .null, .int 0])) :: (((((([] ++ zrdW tyI a1) ++ zhsW tyI a2) ++ zlfW tyI q2 a3) ++ zlfW tyI q2 a4) ++ zpaW tyI tyL q2 q5 a5 g5) ++ zimW tyI tyL q2 q6 a6 b6 g6)) H locs := hh
  refine zk_put (t := 1) (k := 5) (ix := 45) ⟨by decide, by decide⟩ X hin hh (by decide +kernel) (Nat.le_of_ble_eq_true rfl) (zat_in (p := 319) (by decide +kernel)) rfl rfl (by decide +kernel) (fun H locs hh => ?_)
  have hh : zkKh s dC dI A ((h0, .inr (zci 1, [.ref q1, .ref q2, .ref q3, .ref q4, .ref q5, .ref q6, .null, .null, .int 0])) :: (((((([] ++ zrdW tyI a1) ++ zhsW tyI a2) ++ zlfW tyI q2 a3) ++ zlfW tyI q2 a4) ++ zpaW tyI tyL q2 q5 a5 g5) ++ zimW tyI tyL q2 q6 a6 b6 g6)) H locs := hh
  refine lv_aload_n (k := 0) (i := 0) X.1.1 X.1.2.1 (by decide +kernel) rfl (lv_at hl 0 rfl) ?_
  refine zk_new (t := 7) (index := 49) ⟨by decide, by decide⟩ X hh ⟨(zat_in (p := 261) (by decide +kernel)), (zat_in (p := 262) (by decide +kernel)), (zat_in (p := 71) (by decide +kernel))⟩ (by decide +kernel) ⟨(Nat.le_of_ble_eq_true rfl), (Nat.le_of_ble_eq_true rfl)⟩ (fun q7 H hh => ?_)
  refine lv_dup X.1.1 X.1.2.1 (by decide +kernel) rfl ?_
  refine zk_inv (ix := 51) (as := []) X (con_X10 l) hh (.inr (by decide +kernel)) ⟨(zat_in (p := 265) (by decide +kernel)), (zat_in (p := 71) (by decide +kernel)), (zat_in (p := 264) (by decide +kernel))⟩ rfl (by decide +kernel) ⟨(Nat.le_of_ble_eq_true rfl), (Nat.le_of_ble_eq_true rfl)⟩ hl.1 (Nat.le_of_ble_eq_true rfl) (by decide +kernel) ⟨(Nat.le_of_ble_eq_true rfl), (Nat.le_of_ble_eq_true rfl)⟩ (fun u H locs hu hh => ?_)
  obtain ⟨a7, hq7, rfl⟩ := hu
  have hh : zkKh s dC dI A ((h0, .inr (zci 1, [.ref q1, .ref q2, .ref q3, .ref q4, .ref q5, .ref q6, .null, .null, .int 0])) :: ((((((([] ++ zrdW tyI a1) ++ zhsW tyI a2) ++ zlfW tyI q2 a3) ++ zlfW tyI q2 a4) ++ zpaW tyI tyL q2 q5 a5 g5) ++ zimW tyI tyL q2 q6 a6 b6 g6) ++ zsiW tyI a7)) H locs := hh
  refine zk_put (t := 1) (k := 6) (ix := 52) ⟨by decide, by decide⟩ X hin hh (by decide +kernel) (Nat.le_of_ble_eq_true rfl) (zat_in (p := 320) (by decide +kernel)) rfl rfl (by decide +kernel) (fun H locs hh => ?_)
  have hh : zkKh s dC dI A ((h0, .inr (zci 1, [.ref q1, .ref q2, .ref q3, .ref q4, .ref q5, .ref q6, .ref q7, .null, .int 0])) :: ((((((([] ++ zrdW tyI a1) ++ zhsW tyI a2) ++ zlfW tyI q2 a3) ++ zlfW tyI q2 a4) ++ zpaW tyI tyL q2 q5 a5 g5) ++ zimW tyI tyL q2 q6 a6 b6 g6) ++ zsiW tyI a7)) H locs := hh
  refine lv_aload_n (k := 0) (i := 0) X.1.1 X.1.2.1 (by decide +kernel) rfl (lv_at hl 0 rfl) ?_
  refine zk_new (t := 8) (index := 56) ⟨by decide, by decide⟩ X hh ⟨(zat_in (p := 298) (by decide +kernel)), (zat_in (p := 299) (by decide +kernel)), (zat_in (p := 72) (by decide +kernel))⟩ (by decide +kernel) ⟨(Nat.le_of_ble_eq_true rfl), (Nat.le_of_ble_eq_true rfl)⟩ (fun q8 H hh => ?_)
  refine lv_dup X.1.1 X.1.2.1 (by decide +kernel) rfl ?_
  refine zk_inv (ix := 58) (as := []) X (con_X4 l) hh (.inr (by decide +kernel)) ⟨(zat_in (p := 302) (by decide +kernel)), (zat_in (p := 72) (by decide +kernel)), (zat_in (p := 301) (by decide +kernel))⟩ rfl (by decide +kernel) ⟨(Nat.le_of_ble_eq_true rfl), (Nat.le_of_ble_eq_true rfl)⟩ hl.1 (Nat.le_of_ble_eq_true rfl) (by decide +kernel) ⟨(Nat.le_of_ble_eq_true rfl), (Nat.le_of_ble_eq_true rfl)⟩ (fun u H locs hu hh => ?_)
  obtain ⟨a8, hq8, rfl⟩ := hu
  have hh : zkKh s dC dI A ((h0, .inr (zci 1, [.ref q1, .ref q2, .ref q3, .ref q4, .ref q5, .ref q6, .ref q7, .null, .int 0])) :: (((((((([] ++ zrdW tyI a1) ++ zhsW tyI a2) ++ zlfW tyI q2 a3) ++ zlfW tyI q2 a4) ++ zpaW tyI tyL q2 q5 a5 g5) ++ zimW tyI tyL q2 q6 a6 b6 g6) ++ zsiW tyI a7) ++ zorW tyI a8)) H locs := hh
  refine zk_put (t := 1) (k := 7) (ix := 59) ⟨by decide, by decide⟩ X hin hh (by decide +kernel) (Nat.le_of_ble_eq_true rfl) (zat_in (p := 321) (by decide +kernel)) rfl rfl (by decide +kernel) (fun H locs hh => ?_)
  have hh : zkKh s dC dI A ((h0, .inr (zci 1, [.ref q1, .ref q2, .ref q3, .ref q4, .ref q5, .ref q6, .ref q7, .ref q8, .int 0])) :: (((((((([] ++ zrdW tyI a1) ++ zhsW tyI a2) ++ zlfW tyI q2 a3) ++ zlfW tyI q2 a4) ++ zpaW tyI tyL q2 q5 a5 g5) ++ zimW tyI tyL q2 q6 a6 b6 g6) ++ zsiW tyI a7) ++ zorW tyI a8)) H locs := hh
  refine zk_int (t := 1) (k := 8) (ix := 63) (w := 1) (n := 0) ⟨by decide, by decide⟩ X hin (lv_at hl 0 rfl) hh ⟨by decide +kernel, by decide +kernel⟩ (Nat.le_of_ble_eq_true rfl) (zat_in (p := 322) (by decide +kernel)) (by decide +kernel) (by decide +kernel) (by decide +kernel) (fun H locs hh => ?_)
  have hh : zkKh s dC dI A ((h0, .inr (zci 1, [.ref q1, .ref q2, .ref q3, .ref q4, .ref q5, .ref q6, .ref q7, .ref q8, .int 0])) :: (((((((([] ++ zrdW tyI a1) ++ zhsW tyI a2) ++ zlfW tyI q2 a3) ++ zlfW tyI q2 a4) ++ zpaW tyI tyL q2 q5 a5 g5) ++ zimW tyI tyL q2 q6 a6 b6 g6) ++ zsiW tyI a7) ++ zorW tyI a8)) H locs := hh
  subst hq1 hq2 hq3 hq4 hq7 hq8
  exact kk _ _ _ _ _ ⟨fun t i => zgd (zgd [[], [h0], [a1 0], [a2 0, a1 1], [], [q5], [q6], [a7 0], [a8 0], [], [a2 1, a1 2], [a2 2, a1 3], [a2 3, a1 4], [a2 4, a1 5], [a2 5, a1 6], [], [], [], [], [], [a1 7], [a5], [a6], [b6], [a7 1], [a7 2], [a7 3], [a7 4], [a7 5], [a7 6], [a7 7], [a8 1], [a8 2]] t []) i 0, a3, a4, g5, g6, rfl, rfl⟩ hh (by decide +kernel)
