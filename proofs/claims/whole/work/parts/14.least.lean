section
variable {p : Program} {l : Launch} {e : Env} {R : Room} {s : State} {mm : MethodId} {args : Array Value} {below : List Frame} {meth : Method} {c : Code}
variable {ad : Nat → Nat → Nat} {dC : Nat → ClassId} {dI : Nat → Nat → Nat} {tyI tyZ tyL : ClassId} {A : Nat → Prop} {b : Nat} {Γ : zG} {d m cells slots : Nat} {Qm : State → Prop}
theorem ztg {pc : Nat} {o : Int} (h : 0 ≤ (pc : Int) + o) : (pc : Int) + o = ((((pc : Int) + o).toNat : Nat) : Int) := (Int.toNat_of_nonneg h).symm
set_option maxHeartbeats 4000000 in
theorem zbx_ok (C : zCx p R s mm args c ad dC dI tyI tyZ tyL A b Γ d m cells slots) {ins : Instr} {a b' pc len : Nat} {k o : Int} {st st' : List zV} {cnd : Prop} (hdg : decode (zby m) pc = .ok (ins, len)) (hil : zil ins = 0 ∨ len = zil ins) (hok : zok (pc, len, ins, a, b', k) = true) (heq : zbx ins st = some (cnd, o, st')) (hs : zso Γ st)
    {H : Heap} {locs : List Loc} {lsM : Array Slot} (kt : cnd → zso Γ st' → W p l e R s mm args below meth c H locs cells slots Qm (F0 mm ((pc : Int) + o).toNat lsM (st'.map (zvl ad)))) (kf : ¬ cnd → zso Γ st' → W p l e R s mm args below meth c H locs cells slots Qm (F0 mm (pc + len) lsM (st'.map (zvl ad)))) : W p l e R s mm args below meth c H locs cells slots Qm (F0 mm pc lsM (st.map (zvl ad))) := by
  obtain ⟨⟨hx, hb, hml, hown⟩, -⟩ := C
  unfold zbx at heq
  split at heq
  · next cd off =>
    obtain rfl : len = 3 := by simpa [zil] using hil
    have ht : 0 ≤ (pc : Int) + off := by simpa [zok] using hok
    split at heq
    · next y x r =>
      cases heq
      have hy := zso_h hs
      have hx2 := zso_h (zso_t hs)
      have hr := zso_t (zso_t hs)
      cases cd with
      | eq => exact lv_icmp_eq hx hb hdg (ztg ht) (fun h => kt ((z_eqi hx2 hy).mp h) hr) (fun h => kf (fun q => h ((z_eqi hx2 hy).mpr q)) hr)
      | ne => exact lv_icmp_ne hx hb hdg (ztg ht) (fun h => kt (fun q => h ((z_eqi hx2 hy).mpr q)) hr) (fun h => kf (fun q => q ((z_eqi hx2 hy).mp h)) hr)
      | lt => exact lv_icmp_lt hx hb hdg (ztg ht) (fun h => kt ((z_lti hx2 hy).mp h) hr) (fun h => kf (fun q => h ((z_lti hx2 hy).mpr q)) hr)
      | ge => exact lv_icmp_ge hx hb hdg (ztg ht) (fun h => kt ((z_lei hy hx2).mp h) hr) (fun h => kf (fun q => h ((z_lei hy hx2).mpr q)) hr)
      | gt => exact lv_icmp_gt hx hb hdg (ztg ht) (fun h => kt ((z_lti hy hx2).mp h) hr) (fun h => kf (fun q => h ((z_lti hy hx2).mpr q)) hr)
      | le => exact lv_icmp_le hx hb hdg (ztg ht) (fun h => kt ((z_lei hx2 hy).mp h) hr) (fun h => kf (fun q => h ((z_lei hx2 hy).mpr q)) hr)
    · cases heq
  · next cd off =>
    obtain rfl : len = 3 := by simpa [zil] using hil
    have ht : 0 ≤ (pc : Int) + off := by simpa [zok] using hok
    split at heq
    · next x r =>
      cases heq
      have hx2 := zso_h hs
      have hr := zso_t hs
      cases cd with
      | eq => exact lv_if_eq hx hb hdg (ztg ht) (fun h => kt ((z_eqi hx2 z_zero).mp h) hr) (fun h => kf (fun q => h ((z_eqi hx2 z_zero).mpr q)) hr)
      | ne => exact lv_if_ne hx hb hdg (ztg ht) (fun h => kt (fun q => h ((z_eqi hx2 z_zero).mpr q)) hr) (fun h => kf (fun q => q ((z_eqi hx2 z_zero).mp h)) hr)
      | lt => exact lv_if_lt hx hb hdg (ztg ht) (fun h => kt ((z_lti hx2 z_zero).mp h) hr) (fun h => kf (fun q => h ((z_lti hx2 z_zero).mpr q)) hr)
      | ge => exact lv_if_ge hx hb hdg (ztg ht) (fun h => kt ((z_lei z_zero hx2).mp h) hr) (fun h => kf (fun q => h ((z_lei z_zero hx2).mpr q)) hr)
      | gt => exact lv_if_gt hx hb hdg (ztg ht) (fun h => kt ((z_lti z_zero hx2).mp h) hr) (fun h => kf (fun q => h ((z_lti z_zero hx2).mpr q)) hr)
      | le => exact lv_if_le hx hb hdg (ztg ht) (fun h => kt ((z_lei hx2 z_zero).mp h) hr) (fun h => kf (fun q => h ((z_lei hx2 z_zero).mpr q)) hr)
    · cases heq
  · cases heq
theorem zrow_ok {μ : zM} {t k sp u j dp n : Nat} (ho : zak u = 1) {x : Nat} (hk : zob[x]? = some (u, j)) : (zwd ad tyI tyZ tyL μ).set x (ad u j, .inl (tyI, zal u, .inl (va_cpy (fun i => Int32.ofInt (μ t k i)) (fun i => Int32.ofInt (μ u j i)) sp dp n))) = zwd ad tyI tyZ tyL (zcpy μ t k sp u j dp n) := by
  rw [← zwd_cpy hk]
  have e : va_cpy (fun i => Int32.ofInt (μ t k i)) (fun i => Int32.ofInt (μ u j i)) sp dp n = fun i => Int32.ofInt (zcpy μ t k sp u j dp n u j i) := by
    funext i
    unfold va_cpy zcpy
    by_cases h : dp ≤ i ∧ i < dp + n
    · rw [if_pos h, if_pos ⟨rfl, rfl, h⟩]
    · rw [if_neg h, if_neg (fun q => h q.2.2)]
  rw [e]
  congr 2
  simp only [zcl, ho]
theorem zmo_cpy {μ : zM} (h : zmo μ) {t k sp u j dp n : Nat} (h1 : zak t = 1) (h2 : zak u = 1) : zmo (zcpy μ t k sp u j dp n) := by
  intro t' i' k'
  unfold zcpy
  split
  · next q =>
    obtain ⟨rfl, rfl, -⟩ := q
    have e : zsk t' k' = 1 := by unfold zsk; rw [h2]; rfl
    rw [e]
    exact ⟨fun _ => zmo1 h h1, fun q => by omega, fun q => by omega⟩
  · exact h t' i' k'
set_option maxHeartbeats 8000000 in
theorem zox_ok (C : zCx p R s mm args c ad dC dI tyI tyZ tyL A b Γ d m cells slots) {ins : Instr} {a b' pc len pos : Nat} {k : Int} {ls : List (Option zV)} {st : List zV} {μ : zM} {go : Int → List zV → Prop} {nx : List zV → zM → Prop} {Q : zQ} (hdg : decode (zby m) pc = .ok (ins, len)) (hil : zil ins = 0 ∨ len = zil ins) (hok : zok (pc, len, ins, a, b', k) = true) (hlk : zlk (zy m).cls (pc, len, ins, a, b', k) pos = true)
    {H : Heap} {locs : List Loc} {lsM : Array Slot} (hh : zHp s ad dC dI tyI tyZ tyL A μ H locs) (hl : zLo ad (zml m) lsM ls) (hs : zso Γ st) (h : zox zak zal go (fun st' μ' => znat d (nx st' μ')) Q (zmk m) ins a st μ)
    (kg : ∀ o st', go o st' → 0 ≤ (pc : Int) + o → zso Γ st' → W p l e R s mm args below meth c H locs cells slots Qm (F0 mm ((pc : Int) + o).toNat lsM (st'.map (zvl ad))))
    (kn : ∀ st' μ' H' locs', nx st' μ' → zHp s ad dC dI tyI tyZ tyL A μ' H' locs' → zso Γ st' → W p l e R s mm args below meth c H' locs' cells slots Qm (F0 mm (pc + len) lsM (st'.map (zvl ad))))
    (kr : ∀ v, Q v μ → (∀ w, v = some w → zvk Γ w) → zRet m v pc → W p l e R s mm args below meth c H locs cells slots Qm (F0 mm pc lsM (zov ad v))) : W p l e R s mm args below meth c H locs cells slots Qm (F0 mm pc lsM (st.map (zvl ad))) := by
  obtain ⟨⟨hx, hb, hml, hown⟩, ⟨hts, hnw⟩, hK, hA, ⟨hR1, hR2, hR3, hR4⟩, hE, hG⟩ := C
  have hh0 := hh
  obtain ⟨hP, hD, hS, hmo⟩ := hh0
  unfold zox at h
  split at h
  · next off =>
    have ht : 0 ≤ (pc : Int) + off := by simpa [zok] using hok
    obtain rfl : len = 3 := by simpa [zil] using hil
    exact lv_goto hx hb hdg (ztg ht) (kg _ _ h ht hs)
  · next off =>
    have ht : 0 ≤ (pc : Int) + off := by simpa [zok] using hok
    obtain rfl : len = 3 := by simpa [zil] using hil
    split at h
    · next q r => exact lv_ifnonnull hx hb hdg (ztg ht) (kg _ _ h ht (zso_t hs))
    · exact h.elim
  · next dd lo hi os =>
    simp only [zok, Bool.and_eq_true, decide_eq_true_eq, List.all_eq_true] at hok
    obtain ⟨⟨h1, h2⟩, h3⟩ := hok
    split at h
    · next x r =>
      have hz : zin x := zso_h hs
      have hti := z_ti hz
      by_cases hr : x < lo ∨ hi < x
      · exact lv_tableOut hx hb hdg (x := Int32.ofInt x) (by rw [hti]; exact hr) (ztg h1) (kg _ _ (h.1 hr) h1 (zso_t hs))
      · have hj : (x - lo).toNat < os.toList.length := by omega
        have ho : os.toList[(x - lo).toNat]? = some os.toList[(x - lo).toNat] := List.getElem?_eq_getElem hj
        have hgo := zswt_at os.toList lo h.2 (x - lo).toNat _ ho (by omega)
        have h4 := h2 _ (List.getElem_mem hj)
        exact lv_tableIn hx hb hdg (x := Int32.ofInt x) (off := os.toList[(x - lo).toNat]) (by rw [hti]; omega) (by rw [hti]; omega) (by rw [hti, ← Array.getElem?_toList]; exact ho) (ztg h4) (kg _ _ hgo h4 (zso_t hs))
    · exact h.elim
  · next dd ps =>
    simp only [zok, Bool.and_eq_true, decide_eq_true_eq, List.all_eq_true] at hok
    obtain ⟨⟨⟨h1, h2⟩, h3⟩, h4⟩ := hok
    split at h
    · next x r =>
      have hz : zin x := zso_h hs
      have hti := z_ti hz
      have hgo := zlks_at ps.toList h
      have ht : 0 ≤ (pc : Int) + Op.lookupswitch.offset ps.toList dd x := by
        have : ∀ (l : List (Int × Int)), (∀ q ∈ l, 0 ≤ (pc : Int) + q.2) → 0 ≤ (pc : Int) + Op.lookupswitch.offset l dd x := by
          intro l
          induction l with
          | nil => intro _; exact h1
          | cons q l ih =>
            intro hq
            obtain ⟨k1, o1⟩ := q
            rw [Op.lookupswitch.offset_cons]
            split
            · exact hq (k1, o1) List.mem_cons_self
            · exact ih fun y hy => hq y (List.mem_cons_of_mem _ hy)
        exact this ps.toList h2
      refine lv_lookup hx hb hdg (x := Int32.ofInt x) (off := Op.lookupswitch.offset ps.toList dd x) ?_ (by rw [hti]) (ztg ht) (kg _ _ hgo ht (zso_t hs))
      exact List.all_eq_true.mpr fun ⟨q1, q2⟩ hq => decide_eq_true (h3 (q1, q2) hq)
    · exact h.elim
  · obtain rfl : len = 1 := by simpa [zil] using hil
    split at h
    · split at h
      · next hk => exact kr none h (fun w hw => by cases hw) (by unfold zRet; rw [hk]; exact ⟨rfl, hdg⟩)
      · exact h.elim
    · exact h.elim
  · obtain rfl : len = 1 := by simpa [zil] using hil
    split at h
    · next v =>
      split at h
      · next hk => exact kr (some (zI v)) h (fun w hw => by cases hw; exact zso_h hs) (by unfold zRet; rw [hk]; exact ⟨v, rfl, hdg⟩)
      · next hk => exact kr (some (zI v)) h.2 (fun w hw => by cases hw; exact zso_h hs) (by unfold zRet; rw [hk]; exact ⟨v, rfl, h.1, hdg⟩)
      · exact h.elim
    · exact h.elim
  · obtain rfl : len = 1 := by simpa [zil] using hil
    split at h
    · next t j =>
      split at h
      · next hk => exact kr (some (zR t j)) h (fun w hw => by cases hw; exact zso_h hs) (by unfold zRet; rw [hk]; exact ⟨t, j, rfl, hdg⟩)
      · exact h.elim
    · exact h.elim
  · next ix =>
    obtain rfl : len = 3 := by simpa [zil] using hil
    split at h
    · split at h
      · next n dp u j sp t k' r =>
        split at h
        · next hat hau =>
          split at h
          · next hz8 =>
            obtain ⟨⟨g1, g2, g3, g4, g5⟩, hn⟩ := h
            cases d with
            | zero => exact hn.elim
            | succ d' =>
              have hti := zvk_ar (zso_h (zso_t (zso_t (zso_t (zso_t hs))))) (by rw [hat]; decide)
              have hui := zvk_ar (zso_h (zso_t (zso_t hs))) (by rw [hau]; decide)
              obtain ⟨q0, hq1, hq2⟩ := zar1 (ad := ad) (tyI := tyI) (tyZ := tyZ) (tyL := tyL) (μ := μ) hti hat
              obtain ⟨q3, hq4, hq5⟩ := zar1 (ad := ad) (tyI := tyI) (tyZ := tyZ) (tyL := tyL) (μ := μ) hui hau
              simp only [zlk, if_pos] at hlk
              have zn := zso_h hs
              have zd := zso_h (zso_t hs)
              have zs := zso_h (zso_t (zso_t (zso_t hs)))
              have nn : ∀ {x : Int}, zin x → 0 ≤ x → ¬ Int32.ofInt x < 0 := fun {x} hz h0 q => by
                have := (z_lti hz z_zero).mp q
                omega
              refine va_copyi (D := (dC, dI)) hx hb (by rw [hml]; exact hl.2.1.symm) hown (hts _ (zat_in hlk)) (hts _ zcopy_w.1) (hts _ zcopy_w.2.1) (hts _ zcopy_w.2.2) hK hP hD hS q0 q3 0 0 hq2 hq5 rfl rfl rfl (nn zs g2) (nn zd g3) (nn zn g1) (by rw [z_cl zs, z_cl zn]; omega) (by rw [z_cl zd, z_cl zn]; omega) (fun _ _ => rfl) (by omega) ?_ hdg fun H1 locs1 hP1 hD1 hS1 => ?_
              · rw [zsum_ok]
                show zsum r + (nativeFrameWords "java/lang/System" "arraycopy" 5 + 11) ≤ R.locals
                have e7 : nativeFrameWords "java/lang/System" "arraycopy" 5 = 7 := by decide +kernel
                omega
              · rw [z_cl zs, z_cl zd, z_cl zn, zrow_ok hau hq4] at hP1 hD1
                exact kn _ _ _ _ hn ⟨hP1, hD1, hS1, zmo_cpy hmo hat hau⟩ (zso_t (zso_t (zso_t (zso_t (zso_t hs)))))
          · exact h.elim
        · exact h.elim
      · exact h.elim
    · split at h
      · next x r =>
        split at h
        · next hz8 =>
          cases d with
          | zero => exact h.elim
          | succ d' =>
            simp only [zlk] at hlk
            rw [if_neg (by decide)] at hlk
            simp only [Bool.and_eq_true] at hlk
            have hlk := hlk.1.1
            obtain ⟨w1, w2, w3, w4⟩ := zma_abs
            have hw := zat_in hlk
            rw [w4] at hw
            refine va_mabs hx hb (by rw [hml]; exact hl.2.1.symm) hown (hts _ hw) (hts _ w2) (hts _ w3) (hts _ w1) (by omega) (by rw [zsum_ok]; omega) hR3 hR4 hdg ?_
            have zx := zso_h hs
            have e : (if 0 ≤ Int32.ofInt x then Int32.ofInt x else 0 - Int32.ofInt x) = Int32.ofInt (zabs x) := by
              unfold zabs
              by_cases q : 0 ≤ x
              · rw [if_pos (show (0 : Int32) ≤ Int32.ofInt x from (z_lei z_zero zx).mpr q), if_pos q]
              · rw [if_neg (show ¬ (0 : Int32) ≤ Int32.ofInt x from fun z => q ((z_lei z_zero zx).mp z)), if_neg q]
                exact z_sub 0 x
            rw [e]
            refine kn _ _ _ _ h hh (zso_c (v := zI (zabs x)) ?_ (zso_t hs))
            show zin (zabs x)
            unfold zabs
            split
            · exact zx
            · exact z_w32 _
        · exact h.elim
      · exact h.elim
    · split at h
      · next y x r =>
        split at h
        · next hz8 =>
          cases d with
          | zero => exact h.elim
          | succ d' =>
            simp only [zlk] at hlk
            rw [if_neg (by decide)] at hlk
            simp only [Bool.and_eq_true] at hlk
            have hlk := hlk.1.1
            obtain ⟨w1, w2, w3, w4⟩ := zma_max
            have hw := zat_in hlk
            rw [w4] at hw
            refine va_mmax hx hb (by rw [hml]; exact hl.2.1.symm) hown (hts _ hw) (hts _ w2) (hts _ w3) (hts _ w1) (by omega) (by rw [zsum_ok]; omega) hR3 hR4 hdg ?_
            have zy := zso_h hs
            have zx := zso_h (zso_t hs)
            have e : (if Int32.ofInt x < Int32.ofInt y then Int32.ofInt y else Int32.ofInt x) = Int32.ofInt (zmax x y) := by
              unfold zmax
              by_cases q : x < y
              · rw [if_pos ((z_lti zx zy).mpr q), if_pos q]
              · rw [if_neg (fun z => q ((z_lti zx zy).mp z)), if_neg q]
            rw [e]
            refine kn _ _ _ _ h hh (zso_c (v := zI (zmax x y)) ?_ (zso_t (zso_t hs)))
            show zin (zmax x y)
            unfold zmax
            split
            · exact zy
            · exact zx
        · exact h.elim
      · exact h.elim
    · split at h
      · next y x r =>
        split at h
        · next hz8 =>
          cases d with
          | zero => exact h.elim
          | succ d' =>
            simp only [zlk] at hlk
            rw [if_neg (by decide)] at hlk
            simp only [Bool.and_eq_true] at hlk
            have hlk := hlk.1.1
            obtain ⟨w1, w2, w3, w4⟩ := zma_min
            have hw := zat_in hlk
            rw [w4] at hw
            refine va_mmin hx hb (by rw [hml]; exact hl.2.1.symm) hown (hts _ hw) (hts _ w2) (hts _ w3) (hts _ w1) (by omega) (by rw [zsum_ok]; omega) hR3 hR4 hdg ?_
            have zy := zso_h hs
            have zx := zso_h (zso_t hs)
            have e : (if Int32.ofInt y < Int32.ofInt x then Int32.ofInt y else Int32.ofInt x) = Int32.ofInt (zmin x y) := by
              unfold zmin
              by_cases q : y < x
              · rw [if_pos ((z_lti zy zx).mpr q), if_pos q]
              · rw [if_neg (fun z => q ((z_lti zy zx).mp z)), if_neg q]
            rw [e]
            refine kn _ _ _ _ h hh (zso_c (v := zI (zmin x y)) ?_ (zso_t (zso_t hs)))
            show zin (zmin x y)
            unfold zmin
            split
            · exact zy
            · exact zx
        · exact h.elim
      · exact h.elim
    · exact h.elim
  · exact h.elim
end
theorem zSX_mo : zMo zSX := by
  intro Γ d m es ls st μ Q Q' hQ h p l e R s mm args below meth c ad dC dI tyI tyZ tyL A b cells slots Qm pc H locs lsM C h1 h2 h3 h4 h5 h6 hr
  exact h p l e R s mm args below meth c ad dC dI tyI tyZ tyL A b cells slots Qm pc H locs lsM C h1 h2 h3 h4 h5 h6 (fun v μ' pc' H' locs' lsM' q => hr v μ' pc' H' locs' lsM' (hQ v μ' q))
theorem zSX_mk : zMk zSX := by
  intro Γ d m es bb ls st μ Q h p l e R s mm args below meth c ad dC dI tyI tyZ tyL A b cells slots Qm pc H locs lsM C h1 h2 h3 h4 h5 h6 hr
  exact h p l e R s mm args below meth c ad dC dI tyI tyZ tyL A b cells slots Qm pc H locs lsM C h1 h2 h3 (zLo_sub h4 (by rw [zmask_len]; exact h4.1) (fun i u hu => znth_mask bb ls i u hu)) h5 (fun i v hv => h6 i v (znth_mask bb ls i v hv)) hr
set_option maxHeartbeats 4000000 in
theorem zSX_cl : zCl zSX := by
  intro Γ d m g r ls st μ Q h p l e R s mm args below meth c ad dC dI tyI tyZ tyL A b cells slots Qm pc H locs lsM C hsuf hhd hh hl hs hv hr
  have hpc : g.1 = pc := hhd
  subst hpc
  have hmem : g ∈ zcode m := hsuf.subset List.mem_cons_self
  have hE := C.2.2.2.2.2.1
  obtain ⟨pos, hpos⟩ := hE.1 g hmem
  have hil := zil_all hmem
  have hsr : r <:+ zcode m := List.IsSuffix.trans (List.suffix_cons g r) hsuf
  have hdr : zhd r (g.1 + g.2.1) := zco_suf _ g r hE.2.1 hsuf
  have hisc : zisB g.2.2.1 g.2.2.2.1 = true := by
    rcases zcode_in m with q | q
    · rw [q] at hmem; cases hmem
    · exact List.all_eq_true.mp (List.all_eq_true.mp zis_c _ q) g hmem
  simp only [zche, Bool.and_eq_true, decide_eq_true_eq] at hpos
  obtain ⟨⟨hdg, hok⟩, hlk⟩ := hpos
  obtain ⟨pc, len, ins, a, b', k⟩ := g
  dsimp only at hdg hok hlk hil hdr hisc
  unfold zstep zst at h
  dsimp only at h
  split at h
  · next ls' st' μ' heq =>
    exact zsx_ok C hdg hil hok hlk heq (fun P q => by cases q) hh hl hs hv fun H' locs' lsM' h1 h2 h3 h4 => h p l e R s mm args below meth c ad dC dI tyI tyZ tyL A b cells slots Qm _ H' locs' lsM' C hsr hdr h1 h2 h3 h4 hr
  · next P ls' st' μ' heq =>
    exact zsx_ok C hdg hil hok hlk heq (fun P q => by cases q; exact h.1) hh hl hs hv fun H' locs' lsM' h1 h2 h3 h4 => h.2 p l e R s mm args below meth c ad dC dI tyI tyZ tyL A b cells slots Qm _ H' locs' lsM' C hsr hdr h1 h2 h3 h4 hr
  · split at h
    · next cnd o st' heq =>
      exact zbx_ok C hdg hil hok heq hs (fun hc h3 => h.1 hc p l e R s mm args below meth c ad dC dI tyI tyZ tyL A b cells slots Qm _ H locs lsM C (zsf_suf m _) (zsf_hd m _) hh hl h3 hv hr) (fun hc h3 => h.2 hc p l e R s mm args below meth c ad dC dI tyI tyZ tyL A b cells slots Qm _ H locs lsM C hsr hdr hh hl h3 hv hr)
    · split at h
      · next f as r' heq =>
        have hr2 : zso Γ r' := by
          unfold zcx at heq
          have key : ∀ n vs, ztake n [] st = some (vs, r') → zso Γ r' := by
            intro n vs hq
            obtain ⟨xs, h1, -, -⟩ := ztake_iv _ _ _ _ _ hq
            exact fun w hw => hs w (by rw [h1]; exact List.mem_append_right _ hw)
          split at heq
          · split at heq
            · cases heq
            · split at heq
              · next t j vs r2 hq =>
                split at heq
                · split at heq
                  · split at heq
                    · cases heq; exact key _ _ hq
                    · cases heq
                  · cases heq
                · cases heq
              · cases heq
          · split at heq
            · cases heq
            · split at heq
              · next vs r2 hq =>
                split at heq
                · split at heq
                  · cases heq; exact key _ _ hq
                  · cases heq
                · cases heq
              · cases heq
          · cases heq
        refine zcx_ok C hdg hil hlk hisc heq hh hl hs h fun v μ' H' locs' hn h1 h3 => ?_
        refine hn p l e R s mm args below meth c ad dC dI tyI tyZ tyL A b cells slots Qm _ H' locs' lsM C hsr hdr h1 hl ?_ hv hr
        intro w hw
        rcases List.mem_append.mp hw with q | q
        · have := h3 w q
          rcases w with a1 | a1 | q1
          · exact this
          · exact this
          · rcases this with z | z
            · exact Or.inl z
            · exact absurd z.2.2 (by simp)
        · exact hr2 w q
      · exact zox_ok C hdg hil hok hlk hh hl hs h (fun o st' hg h0 h3 => hg p l e R s mm args below meth c ad dC dI tyI tyZ tyL A b cells slots Qm _ H locs lsM C (zsf_suf m _) (zsf_hd m _) hh hl h3 hv hr) (fun st' μ' H' locs' hn h1 h3 => hn p l e R s mm args below meth c ad dC dI tyI tyZ tyL A b cells slots Qm _ H' locs' lsM C hsr hdr h1 hl h3 hv hr) (fun v hq h3 h4 => hr v μ _ H locs lsM hq hh h3 h4)
/-- what the abstract machine comes to, the machine comes to -/
theorem zsound {Γ : zG} {d m : Nat} {es : List zE} {ls : List (Option zV)} {st : List zV} {μ : zM} {Q : zQ} (h : zW Γ d m es ls st μ Q) : zSX Γ d m es ls st μ Q := h zSX zSX_mo zSX_cl zSX_mk
