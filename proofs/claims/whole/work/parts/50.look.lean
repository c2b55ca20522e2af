/-! LOOK AT, both sides -/
def zcnv (v : Nat → Int) (x : Int) (i : Nat) : Int := zSm (fun k => if v k = x then 1 else 0) i
def zmxv (v : Nat → Int) : Nat → Int
  | 0 => 0
  | i + 1 => if zcnv v (v i) (i + 1) ≤ zmxv v i then zmxv v i else zcnv v (v i) (i + 1)
theorem zmxv_s (v : Nat → Int) (i : Nat) : zmxv v (i + 1) = if zcnv v (v i) (i + 1) ≤ zmxv v i then zmxv v i else zcnv v (v i) (i + 1) := rfl
theorem zcnv_s (v : Nat → Int) (x : Int) (i : Nat) : zcnv v x (i + 1) = zcnv v x i + (if v i = x then 1 else 0) := rfl
theorem zcnv_rg (v : Nat → Int) (x : Int) (i : Nat) : 0 ≤ zcnv v x i ∧ zcnv v x i ≤ i := by
  have := zSm_rg (f := fun k => if v k = x then (1 : Int) else 0) (m := 1) (n := i) (fun b _ => by by_cases q : v b = x <;> simp [q])
  unfold zcnv
  omega
def zvlv (f : Nat → Nat → Int) (B : Nat → Nat) (d : Nat) (l : List Nat) (k : Nat) : Int := f ((l[k]?).getD 0 / 100) (((l[k]?).getD 0 % 100 + d) % B ((l[k]?).getD 0 / 100))
theorem s_cgreat (d : Nat) (hd : d < 12) (μ : zM) {n : Nat} {B : Nat → Nat} (hH : zHc μ n B) (hL : zLc μ 0) {l : List Nat} (hf : zFd μ l) (h72 : l.length ≤ 72) (hl : ∀ x, x ∈ l → ∃ r c, r < n ∧ c < B r ∧ x = 100 * r + c) (K : Int → zM → Prop) (h : ∀ μ', zag 30 μ μ' → K (zmxv (zvlv (rC μ 0) B d l) l.length) μ') : zC1 6 m_X10_greatestPart [zR 7 0, zR 4 0, zI (d : Int)] μ K := by
  have hB : ∀ r, r < n → B r ≤ 12 ∧ 1 ≤ B r := fun r hr => ⟨(hH.2.2.1 r hr).2.2, (hH.2.2.1 r hr).2.1⟩
  have hn := hH.2.1
  refine k_X10_greatestPart 5 0 d μ K (s_fill_30 5 0 μ _ ?_)
  have L : ∀ m i : Nat, i + m = l.length → ∀ μ', zag 30 μ μ' → (∀ y : Nat, y < 10 → μ' 30 0 y = zcnv (zvlv (rC μ 0) B d l) (y : Int) i) → zJ 6 m_X10_greatestPart 13 [some (zR 7 0), some (zR 4 0), some (zI (d : Int)), some (zI (zmxv (zvlv (rC μ 0) B d l) i)), some (zI (i : Int)), none, none, none] μ' (zQ1 K) := by
    intro m
    induction m with
    | zero =>
      intro i hi μ' ha hc
      have f1 : μ' 7 0 9 = ((l.length : Nat) : Int) := by rw [ha _ _ _ (by omega)]; exact hf.1
      refine k_X10_greatestPart_13 5 0 d _ i μ' K ⟨fun _ => ?_, fun q => absurd f1 (by omega)⟩
      rw [show i = l.length by omega]
      exact h μ' ha
    | succ m ih =>
      intro i hi μ' ha hc
      have f1 : μ' 7 0 9 = ((l.length : Nat) : Int) := by rw [ha _ _ _ (by omega)]; exact hf.1
      have hi2 : i < l.length := by omega
      have hx : l[i]? = some l[i] := List.getElem?_eq_getElem hi2
      obtain ⟨r, c, q1, q2, q3⟩ := hl l[i] (List.getElem_mem hi2)
      obtain ⟨b1, b2⟩ := hB r q1
      have f2 : μ' 29 0 i = ((100 * r + c : Nat) : Int) := by rw [ha _ _ _ (by omega), hf.2 i _ hx, q3]
      have hv : zvlv (rC μ 0) B d l i = rC μ 0 r ((c + d) % B r) := by
        unfold zvlv
        rw [hx]
        show rC μ 0 (l[i] / 100) ((l[i] % 100 + d) % B (l[i] / 100)) = _
        rw [q3, show (100 * r + c) / 100 = r by omega, show (100 * r + c) % 100 = c by omega]
      have hm := Nat.mod_lt (c + d) (show 0 < B r by omega)
      have hrg := rC_rg (j := 0) hH q1 hm
      refine k_X10_greatestPart_13 5 0 d _ i μ' K ⟨fun q => absurd f1 (by omega), fun _ => s_at_29 5 i (by omega) μ' _ ⟨by decide, by decide, ?_⟩⟩
      rw [f2, show Int.tdiv ((100 * r + c : Nat) : Int) 100 = (((100 * r + c) / 100 : Nat) : Int) from rfl, show Int.tmod ((100 * r + c : Nat) : Int) 100 = (((100 * r + c) % 100 : Nat) : Int) from rfl, show (100 * r + c) / 100 = r by omega, show (100 * r + c) % 100 = c by omega, z_fix (show (-2147483648 : Int) ≤ (r : Int) by omega) (by omega), z_fix (show (-2147483648 : Int) ≤ (c : Int) + (d : Int) by omega) (by omega), show (c : Int) + (d : Int) = ((c + d : Nat) : Int) by omega]
      have eC : rC μ' 0 = rC μ 0 := rC_cg (fun k => ha _ _ _ (by omega)) (fun t k z => ha _ _ _ (by omega))
      refine s_readsRound 2 0 r (c + d) μ' (zHc_cg (fun t k z => ha _ _ _ (by omega)) hH) q1 (zLc_cg (fun k => ha _ _ _ (by omega)) hL) _ ?_
      rw [eC]
      obtain ⟨y, hy⟩ := Int.eq_ofNat_of_zero_le hrg.1
      rw [hy] at hv ⊢
      refine s_at_30 5 y (by omega) μ' _ ?_
      rw [hc y (by omega)]
      have g1 := zcnv_rg (zvlv (rC μ 0) B d l) (y : Int) i
      rw [z_fix (show (-2147483648 : Int) ≤ zcnv (zvlv (rC μ 0) B d l) (y : Int) i + 1 by omega) (by omega)]
      have e1 : zcnv (zvlv (rC μ 0) B d l) (y : Int) i + 1 = zcnv (zvlv (rC μ 0) B d l) (zvlv (rC μ 0) B d l i) (i + 1) := by
        rw [hv, zcnv_s, if_pos hv]
      have e2 : zmax (zmxv (zvlv (rC μ 0) B d l) i) (zcnv (zvlv (rC μ 0) B d l) (y : Int) i + 1) = zmxv (zvlv (rC μ 0) B d l) (i + 1) := by
        rw [zmxv_s, e1]
        unfold zmax
        split <;> split <;> omega
      rw [e2]
      refine s_put_30 5 y (by omega) _ μ' _ ?_
      rw [z_fix (by omega) (by omega)]
      refine ih (i + 1) (by omega) _ (zag_set ha _ _ _) (fun x hx => ?_)
      rw [zcnv_s]
      by_cases q : x = y
      · subst q
        rw [zset_self, if_pos hv]
      · rw [zo (by omega), hc x hx, if_neg (by rw [hv]; omega)]; omega
  refine L l.length 0 (by omega) _ (fun t i k q => ?_) (fun y hy => ?_)
  · unfold zfil; rw [if_neg]; rintro ⟨q1, -⟩; exact q q1
  · unfold zfil; rw [if_pos ⟨rfl, rfl, hy⟩]; rfl
/-- the best place to look: state (best, fewest) -/
def zlkv (g : Nat → Int) (z : Int) : Nat → Int × Int
  | 0 => (-1, z)
  | i + 1 => if g i ≥ (zlkv g z i).2 then zlkv g z i else ((i : Int), g i)
theorem zlkv_s (g : Nat → Int) (z : Int) (i : Nat) : zlkv g z (i + 1) = if g i ≥ (zlkv g z i).2 then zlkv g z i else ((i : Int), g i) := rfl
theorem s_bestLook (μ : zM) {n : Nat} {B : Nat → Nat} (hH : zHc μ n B) (hL : zLc μ 0) {l : List Nat} (hf : zFd μ l) (h72 : l.length ≤ 72) (hl : ∀ x, x ∈ l → ∃ r c, r < n ∧ c < B r ∧ x = 100 * r + c) (K : Int → zM → Prop) (h : ∀ μ', zag 30 μ μ' → K (zlkv (fun d => zmxv (zvlv (rC μ 0) B d l) l.length) ((l.length : Nat) : Int) 12).1 μ') : zC1 7 m_X10_bestLook [zR 7 0, zR 4 0] μ K := by
  refine k_X10_bestLook 6 0 μ K ?_
  rw [hf.1]
  have L : ∀ m i : Nat, i + m = 12 → ∀ μ', zag 30 μ μ' → zJ 7 m_X10_bestLook 10 [some (zR 7 0), some (zR 4 0), some (zI (zlkv (fun d => zmxv (zvlv (rC μ 0) B d l) l.length) ((l.length : Nat) : Int) i).1), some (zI (zlkv (fun d => zmxv (zvlv (rC μ 0) B d l) l.length) ((l.length : Nat) : Int) i).2), some (zI (i : Int)), none] μ' (zQ1 K) := by
    intro m
    induction m with
    | zero =>
      intro i hi μ' ha
      refine k_X10_bestLook_10 6 0 _ _ i μ' K ⟨fun _ => ?_, fun q => absurd q (by omega)⟩
      rw [show i = 12 by omega]
      exact h μ' ha
    | succ m ih =>
      intro i hi μ' ha
      have eC : rC μ' 0 = rC μ 0 := rC_cg (fun k => ha _ _ _ (by omega)) (fun t k z => ha _ _ _ (by omega))
      have hf' : zFd μ' l := ⟨by rw [ha _ _ _ (by omega)]; exact hf.1, fun k x hx => by rw [ha _ _ _ (by omega)]; exact hf.2 k x hx⟩
      refine k_X10_bestLook_10 6 0 _ _ i μ' K ⟨fun q => absurd q (by omega), fun _ => s_cgreat i (by omega) μ' (zHc_cg (fun t k z => ha _ _ _ (by omega)) hH) (zLc_cg (fun k => ha _ _ _ (by omega)) hL) hf' h72 hl _ (fun μ2 ha2 => ?_)⟩
      have ha3 : zag 30 μ μ2 := fun t i k q => (ha2 t i k q).trans (ha t i k q)
      have e := ih (i + 1) (by omega) μ2 ha3
      rw [zlkv_s] at e
      rw [eC, z_fix (by omega) (by omega)]
      refine ⟨fun q => ?_, fun q => ?_⟩
      · rw [if_pos q] at e; exact e
      · rw [if_neg q] at e; exact e
  exact L 12 0 (by omega) μ (fun _ _ _ _ => rfl)
theorem zps_pre (G : Nat → Nat → Bool) (r : Nat) : ∀ m b, ∃ t, zps G r (b + m) = zps G r b ++ t
  | 0, b => ⟨[], by rw [List.append_nil]; rfl⟩
  | m + 1, b => by
    obtain ⟨t, ht⟩ := zps_pre G r m b
    refine ⟨t ++ (if G r (b + m) = true then (100 * r + (b + m)) :: [] else []), ?_⟩
    rw [show b + (m + 1) = (b + m) + 1 by omega, zps_s, ht, List.append_assoc]
theorem zpl_pre (G : Nat → Nat → Bool) (B : Nat → Nat) : ∀ m r, ∃ t, zpl G B (r + m) = zpl G B r ++ t
  | 0, r => ⟨[], by rw [List.append_nil]; rfl⟩
  | m + 1, r => by
    obtain ⟨t, ht⟩ := zpl_pre G B m r
    refine ⟨t ++ zps G (r + m) (B (r + m)), ?_⟩
    rw [show r + (m + 1) = (r + m) + 1 by omega, zpl_s, ht, List.append_assoc]
theorem zpl_at (G : Nat → Nat → Bool) (B : Nat → Nat) {n r b : Nat} (hr : r < n) (hb : b < B r) (hg : G r b = true) : (zpl G B n)[(zpl G B r ++ zps G r b).length]? = some (100 * r + b) := by
  obtain ⟨t1, h1⟩ := zpl_pre G B (n - (r + 1)) (r + 1)
  obtain ⟨t2, h2⟩ := zps_pre G r (B r - (b + 1)) (b + 1)
  rw [show r + 1 + (n - (r + 1)) = n by omega, zpl_s] at h1
  rw [show b + 1 + (B r - (b + 1)) = B r by omega, zps_s, if_pos hg] at h2
  rw [h1, h2]
  rw [show zpl G B r ++ (zps G r b ++ (100 * r + b) :: [] ++ t2) ++ t1 = (zpl G B r ++ zps G r b) ++ ((100 * r + b) :: (t2 ++ t1)) by simp [List.append_assoc]]
  rw [List.getElem?_append_right (Nat.le_refl _), Nat.sub_self]
  rfl
