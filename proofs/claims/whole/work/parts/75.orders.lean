/-! ORDERS, pure: sets of at most six, the least over all orders, the first of the least -/
def zbn (set k : Nat) : Bool := decide (set / 2 ^ k % 2 = 1)
def zrmv (set k : Nat) : Nat := if zbn set k = true then set - 2 ^ k else set
def zpp (set : Nat) : Nat := set % 2 + set / 2 % 2 + set / 4 % 2 + set / 8 % 2 + set / 16 % 2 + set / 32 % 2
def zfi (set : Nat) : Nat := if set % 2 = 1 then 0 else if set / 2 % 2 = 1 then 1 else if set / 4 % 2 = 1 then 2 else if set / 8 % 2 = 1 then 3 else if set / 16 % 2 = 1 then 4 else 5
theorem zbn_bit : ∀ set : Nat, set < 64 → ∀ k : Nat, k < 6 → zbit (set : Int) k = zbn set k := by decide +kernel
theorem zrm_and : ∀ set : Nat, set < 64 → ∀ k : Nat, k < 6 → zand (set : Int) (zxor (zshl 1 (k : Int)) (-1)) = ((zrmv set k : Nat) : Int) := by decide +kernel
theorem zrm_le : ∀ set : Nat, set < 64 → ∀ k : Nat, k < 6 → zrmv set k ≤ set ∧ (zbn set k = true → zrmv set k < set ∧ zbn (zrmv set k) k = false ∧ zpp (zrmv set k) + 1 = zpp set) := by decide +kernel
theorem zfi_ok : ∀ n, n < 7 → ∀ set, set < 2 ^ n → set ≠ 0 → zbn set (zfi set) = true ∧ zfi set < n := by decide +kernel
theorem zpp_0 : ∀ set : Nat, set < 64 → (zpp set = 0 ↔ set = 0) := by decide +kernel
theorem zpp_n : ∀ n, n < 7 → zpp (2 ^ n - 1) = n := by decide +kernel
theorem zbn_rm : ∀ set : Nat, set < 64 → ∀ k : Nat, k < 6 → ∀ j, j < 6 → j ≠ k → zbn (zrmv set k) j = zbn set j := by decide +kernel
theorem zbn_all : ∀ n, n < 7 → ∀ k, k < n → zbn (2 ^ n - 1) k = true := by decide +kernel
theorem z_shlN : ∀ n : Nat, n < 7 → zshl 1 (n : Int) = ((2 ^ n : Nat) : Int) := by decide +kernel
theorem z_p6 {n : Nat} (h : n ≤ 6) : 2 ^ n ≤ 64 := Nat.pow_le_pow_right (show 0 < 2 by omega) h
/-- the first of the best -/
def zfb (v : Nat → Int) (b : Nat → Bool) : Nat → Nat × Int
  | 0 => (0, 73)
  | s + 1 => if b s = true then (if v s < (zfb v b s).2 then (s, v s) else zfb v b s) else zfb v b s
theorem zfb_s (v : Nat → Int) (b : Nat → Bool) (s : Nat) : zfb v b (s + 1) = if b s = true then (if v s < (zfb v b s).2 then (s, v s) else zfb v b s) else zfb v b s := rfl
theorem zfb_ext {v v' : Nat → Int} {b : Nat → Bool} : ∀ {n : Nat}, (∀ k, k < n → b k = true → v k = v' k) → zfb v b n = zfb v' b n
  | 0, _ => rfl
  | n + 1, h => by
    have ih := zfb_ext (n := n) (fun k hk => h k (by omega))
    rw [zfb_s, zfb_s, ih]
    by_cases q : b n = true
    · rw [if_pos q, if_pos q, h n (by omega) q]
    · rw [if_neg q, if_neg q]
theorem zfb_iv (v : Nat → Int) (b : Nat → Bool) : ∀ n, (zfb v b n = (0, 73) ∧ ∀ k, k < n → b k = true → 73 ≤ v k) ∨ ((zfb v b n).1 < n ∧ b (zfb v b n).1 = true ∧ (zfb v b n).2 = v (zfb v b n).1 ∧ (zfb v b n).2 < 73)
  | 0 => Or.inl ⟨rfl, fun k hk => absurd hk (by omega)⟩
  | n + 1 => by
    rw [zfb_s]
    by_cases q : b n = true
    · rw [if_pos q]
      by_cases q2 : v n < (zfb v b n).2
      · rw [if_pos q2]
        refine Or.inr ⟨Nat.lt_succ_self n, q, rfl, ?_⟩
        show v n < 73
        rcases zfb_iv v b n with ⟨h1, h2⟩ | ⟨h1, h2, h3, h4⟩
        · rw [h1] at q2; exact q2
        · omega
      · rw [if_neg q2]
        rcases zfb_iv v b n with ⟨h1, h2⟩ | ⟨h1, h2, h3, h4⟩
        · refine Or.inl ⟨h1, fun k hk hb => ?_⟩
          by_cases e : k = n
          · subst e; rw [h1] at q2; have q3 : ¬ v k < 73 := q2; omega
          · exact h2 k (by omega) hb
        · exact Or.inr ⟨by omega, h2, h3, h4⟩
    · rw [if_neg q]
      rcases zfb_iv v b n with ⟨h1, h2⟩ | ⟨h1, h2, h3, h4⟩
      · refine Or.inl ⟨h1, fun k hk hb => ?_⟩
        by_cases e : k = n
        · subst e; exact absurd hb q
        · exact h2 k (by omega) hb
      · exact Or.inr ⟨by omega, h2, h3, h4⟩
theorem zfb_ok {v : Nat → Int} {b : Nat → Bool} {n k : Nat} (hk : k < n) (hb : b k = true) (hv : v k < 73) : (zfb v b n).1 < n ∧ b (zfb v b n).1 = true ∧ (zfb v b n).2 = v (zfb v b n).1 ∧ (zfb v b n).2 < 73 := by
  rcases zfb_iv v b n with ⟨h1, h2⟩ | h
  · have := h2 k hk hb; omega
  · exact h
/-- the fewest behind a, of a set of m -/
def zGv (n : Nat) (A : Nat → Int) : Nat → Nat → Nat → Int
  | 0, _, _ => 0
  | m + 1, set, a => (zfb (fun s => A (a * 6 + s) + zGv n A m (zrmv set s) s) (zbn set) n).2
def zgr (n : Nat) (A : Nat → Int) : Nat → Nat → Nat → List Nat
  | 0, _, _ => []
  | m + 1, set, a => (zfb (fun s => A (a * 6 + s) + zGv n A m (zrmv set s) s) (zbn set) n).1 :: zgr n A m (zrmv set (zfb (fun s => A (a * 6 + s) + zGv n A m (zrmv set s) s) (zbn set) n).1) (zfb (fun s => A (a * 6 + s) + zGv n A m (zrmv set s) s) (zbn set) n).1
theorem zG_s (n : Nat) (A : Nat → Int) (m set a : Nat) : zGv n A (m + 1) set a = (zfb (fun s => A (a * 6 + s) + zGv n A m (zrmv set s) s) (zbn set) n).2 := rfl
theorem zgr_s (n : Nat) (A : Nat → Int) (m set a : Nat) : zgr n A (m + 1) set a = (zfb (fun s => A (a * 6 + s) + zGv n A m (zrmv set s) s) (zbn set) n).1 :: zgr n A m (zrmv set (zfb (fun s => A (a * 6 + s) + zGv n A m (zrmv set s) s) (zbn set) n).1) (zfb (fun s => A (a * 6 + s) + zGv n A m (zrmv set s) s) (zbn set) n).1 := rfl
/-- what can come ahead -/
def zah (n a : Nat) : Prop := a = 6 ∨ a < n
def zA12 (n : Nat) (A : Nat → Int) : Prop := ∀ a s, zah n a → s < n → 0 ≤ A (a * 6 + s) ∧ A (a * 6 + s) ≤ 12
theorem zG_rg {n : Nat} {A : Nat → Int} (hn : n ≤ 6) (hA : zA12 n A) : ∀ (m set a : Nat), zah n a → set < 2 ^ n → zpp set = m → 0 ≤ zGv n A m set a ∧ zGv n A m set a ≤ 12 * (m : Int)
  | 0, _, _, _, _, _ => by
    show (0 : Int) ≤ 0 ∧ (0 : Int) ≤ 12 * ((0 : Nat) : Int)
    omega
  | m + 1, set, a, ha, hs, hm => by
    have h64 := z_p6 hn
    have hs0 : set ≠ 0 := fun e => by
      have := (zpp_0 set (by omega)).mpr e
      omega
    obtain ⟨b1, b2⟩ := zfi_ok n (by omega) set hs hs0
    have hv : ∀ k, k < n → zbn set k = true → 0 ≤ A (a * 6 + k) + zGv n A m (zrmv set k) k ∧ A (a * 6 + k) + zGv n A m (zrmv set k) k ≤ 12 * ((m + 1 : Nat) : Int) := by
      intro k hk hb
      have h1 := hA a k ha hk
      obtain ⟨g1, g2⟩ := zrm_le set (by omega) k (by omega)
      obtain ⟨g2, g3, g4⟩ := g2 hb
      have ih := zG_rg hn hA m (zrmv set k) k (Or.inr hk) (by omega) (by omega)
      omega
    have hm6 : m + 1 ≤ 6 := by
      have h7 : ∀ set : Nat, set < 64 → zpp set ≤ 6 := by decide +kernel
      have := h7 set (by omega)
      omega
    have hb0 := hv _ b2 b1
    obtain ⟨f1, f2, f3, f4⟩ := zfb_ok (v := fun s => A (a * 6 + s) + zGv n A m (zrmv set s) s) b2 b1 (by show A (a * 6 + zfi set) + zGv n A m (zrmv set (zfi set)) (zfi set) < 73; omega)
    rw [zG_s]
    generalize zfb (fun s => A (a * 6 + s) + zGv n A m (zrmv set s) s) (zbn set) n = r at f1 f2 f3 f4 ⊢
    rw [f3]
    exact hv _ f1 f2
/-- all orders of a set, and the first of the least of a list -/
def zlb {α : Type} (h : Nat → List α) (b : Nat → Bool) : Nat → List α
  | 0 => []
  | k + 1 => zlb h b k ++ (if b k = true then h k else [])
def zlx (n : Nat) : Nat → Nat → List (List Nat)
  | 0, _ => [[]]
  | m + 1, set => zlb (fun s => (zlx n m (zrmv set s)).map (List.cons s)) (zbn set) n
theorem zlb_s {α : Type} (h : Nat → List α) (b : Nat → Bool) (k : Nat) : zlb h b (k + 1) = zlb h b k ++ (if b k = true then h k else []) := rfl
theorem zlb_mem {α : Type} {h : Nat → List α} {b : Nat → Bool} {x : α} : ∀ {k : Nat}, x ∈ zlb h b k → ∃ s, s < k ∧ b s = true ∧ x ∈ h s
  | 0, q => by cases q
  | k + 1, q => by
    rw [zlb_s] at q
    rcases List.mem_append.mp q with q | q
    · obtain ⟨s, h1, h2⟩ := zlb_mem q
      exact ⟨s, by omega, h2⟩
    · by_cases e : b k = true
      · rw [if_pos e] at q; exact ⟨k, by omega, e, q⟩
      · rw [if_neg e] at q; cases q
theorem zlx_s (n m set : Nat) : zlx n (m + 1) set = zlb (fun s => (zlx n m (zrmv set s)).map (List.cons s)) (zbn set) n := rfl
def zfd (f g : List Nat → Int) : List (List Nat) → Int × Int → Int × Int
  | [], x => x
  | p :: L, x => zfd f g L (if f p < x.2 then (g p, f p) else x)
theorem zfd_app (f g : List Nat → Int) : ∀ (L1 L2 : List (List Nat)) (x : Int × Int), zfd f g (L1 ++ L2) x = zfd f g L2 (zfd f g L1 x)
  | [], _, _ => rfl
  | _ :: L1, L2, _ => zfd_app f g L1 L2 _
theorem zfd_map (f g : List Nat → Int) (h : List Nat → List Nat) : ∀ (L : List (List Nat)) (x : Int × Int), zfd f g (L.map h) x = zfd (fun p => f (h p)) (fun p => g (h p)) L x
  | [], _ => rfl
  | _ :: L, _ => zfd_map f g h L _
def zct (A : Nat → Int) : Nat → List Nat → Int
  | _, [] => 0
  | a, s :: t => A (a * 6 + s) + zct A s t
theorem zfd_lx {n : Nat} {A : Nat → Int} (hn : n ≤ 6) (hA : zA12 n A) : ∀ (m set a : Nat), zah n a → set < 2 ^ n → zpp set = m → ∀ (c : Int) (f g : List Nat → Int) (x : Int × Int), (∀ p, p ∈ zlx n m set → f p = c + zct A a p) → zfd f g (zlx n m set) x = if c + zGv n A m set a < x.2 then (g (zgr n A m set a), c + zGv n A m set a) else x
  | 0, set, a, _, _, _, c, f, g, x, hf => by
    have h1 : f [] = c + 0 := hf [] (List.mem_cons_self)
    show (if f [] < x.2 then (g [], f []) else x) = if c + 0 < x.2 then (g [], c + 0) else x
    rw [h1]
  | m + 1, set, a, ha, hs, hm, c, f, g, x, hf => by
    have h64 := z_p6 hn
    have hs0 : set ≠ 0 := fun e => by
      have := (zpp_0 set (by omega)).mpr e
      omega
    obtain ⟨b1, b2⟩ := zfi_ok n (by omega) set hs hs0
    have hm6 : m + 1 ≤ 6 := by
      have h7 : ∀ set : Nat, set < 64 → zpp set ≤ 6 := by decide +kernel
      have := h7 set (by omega)
      omega
    have hrm : ∀ k, k < n → zbn set k = true → zrmv set k < 2 ^ n ∧ zpp (zrmv set k) = m := by
      intro k hk hb
      obtain ⟨g1, g2⟩ := zrm_le set (by omega) k (by omega)
      obtain ⟨g2, g3, g4⟩ := g2 hb
      exact ⟨by omega, by omega⟩
    have hv : ∀ k, k < n → zbn set k = true → A (a * 6 + k) + zGv n A m (zrmv set k) k < 73 := by
      intro k hk hb
      have h1 := hA a k ha hk
      have ih := zG_rg hn hA m (zrmv set k) k (Or.inr hk) (hrm k hk hb).1 (hrm k hk hb).2
      omega
    rw [zlx_s] at hf ⊢
    have L : ∀ k, k ≤ n → (∀ p, p ∈ zlb (fun s => (zlx n m (zrmv set s)).map (List.cons s)) (zbn set) k → f p = c + zct A a p) → zfd f g (zlb (fun s => (zlx n m (zrmv set s)).map (List.cons s)) (zbn set) k) x = if (zfb (fun s => A (a * 6 + s) + zGv n A m (zrmv set s) s) (zbn set) k).2 < 73 ∧ c + (zfb (fun s => A (a * 6 + s) + zGv n A m (zrmv set s) s) (zbn set) k).2 < x.2 then (g ((zfb (fun s => A (a * 6 + s) + zGv n A m (zrmv set s) s) (zbn set) k).1 :: zgr n A m (zrmv set (zfb (fun s => A (a * 6 + s) + zGv n A m (zrmv set s) s) (zbn set) k).1) (zfb (fun s => A (a * 6 + s) + zGv n A m (zrmv set s) s) (zbn set) k).1), c + (zfb (fun s => A (a * 6 + s) + zGv n A m (zrmv set s) s) (zbn set) k).2) else x := by
      intro k
      induction k with
      | zero =>
        intro _ _
        rw [if_neg (by rintro ⟨z, -⟩; exact absurd (show (73 : Int) < 73 from z) (by decide))]
        rfl
      | succ k ih =>
        intro hk hfk
        rw [zlb_s] at hfk ⊢
        rw [zfd_app, ih (by omega) (fun p hp => hfk p (List.mem_append_left _ hp)), zfb_s]
        by_cases hb : zbn set k = true
        · rw [if_pos hb] at hfk ⊢
          rw [if_pos hb, zfd_map]
          have hk2 := hrm k (by omega) hb
          have hvk := hv k (by omega) hb
          rw [zfd_lx hn hA m (zrmv set k) k (Or.inr (by omega)) hk2.1 hk2.2 (c + A (a * 6 + k)) (fun p => f (k :: p)) (fun p => g (k :: p)) _ (fun p hp => by
            rw [hfk (k :: p) (List.mem_append_right _ (List.mem_map_of_mem hp))]
            show c + (A (a * 6 + k) + zct A k p) = c + A (a * 6 + k) + zct A k p
            omega)]
          have iv := zfb_iv (fun s => A (a * 6 + s) + zGv n A m (zrmv set s) s) (zbn set) k
          generalize zfb (fun s => A (a * 6 + s) + zGv n A m (zrmv set s) s) (zbn set) k = r at iv ⊢
          generalize hG : zGv n A m (zrmv set k) k = v at hvk ⊢
          have hr : r.2 ≤ 73 := by
            rcases iv with ⟨e, -⟩ | ⟨-, -, -, e⟩
            · rw [e]; exact Int.le_refl _
            · omega
          by_cases q1 : A (a * 6 + k) + v < r.2
          · rw [if_pos q1]
            by_cases q2 : r.2 < 73 ∧ c + r.2 < x.2
            · rw [if_pos q2, if_pos (show c + A (a * 6 + k) + v < c + r.2 by omega), if_pos (show A (a * 6 + k) + v < 73 ∧ c + (A (a * 6 + k) + v) < x.2 by omega)]
              rw [show c + A (a * 6 + k) + v = c + (A (a * 6 + k) + v) by omega]
            · rw [if_neg q2]
              by_cases q3 : c + (A (a * 6 + k) + v) < x.2
              · rw [if_pos (show c + A (a * 6 + k) + v < x.2 by omega), if_pos (show A (a * 6 + k) + v < 73 ∧ c + (A (a * 6 + k) + v) < x.2 by omega)]
                rw [show c + A (a * 6 + k) + v = c + (A (a * 6 + k) + v) by omega]
              · rw [if_neg (show ¬ c + A (a * 6 + k) + v < x.2 by omega), if_neg (show ¬ (A (a * 6 + k) + v < 73 ∧ c + (A (a * 6 + k) + v) < x.2) by omega)]
          · rw [if_neg q1]
            by_cases q2 : r.2 < 73 ∧ c + r.2 < x.2
            · rw [if_pos q2, if_neg (show ¬ c + A (a * 6 + k) + v < c + r.2 by omega)]
            · rw [if_neg q2, if_neg (show ¬ c + A (a * 6 + k) + v < x.2 by omega)]
        · rw [if_neg hb, if_neg hb]
          rfl
    rw [L n (Nat.le_refl _) hf, zG_s, zgr_s]
    obtain ⟨f1, f2, f3, f4⟩ := zfb_ok (v := fun s => A (a * 6 + s) + zGv n A m (zrmv set s) s) b2 b1 (hv _ b2 b1)
    generalize zfb (fun s => A (a * 6 + s) + zGv n A m (zrmv set s) s) (zbn set) n = r at f4 ⊢
    by_cases q : c + r.2 < x.2
    · rw [if_pos ⟨f4, q⟩, if_pos q]
    · rw [if_neg (fun z => q z.2), if_neg q]
