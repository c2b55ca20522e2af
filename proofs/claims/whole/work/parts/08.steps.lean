/-! THE STEP, as a transformer: what must hold so that the machine comes to its end with Q; and its least solution -/
abbrev zP : Type := List (Option zV) → List zV → zM → Prop
abbrev zQ : Type := Option zV → zM → Prop
abbrev zG : Type := Option (Nat × (Nat → Int))
/-- kinds of references that methods answer -/
def zrg (f : Nat) : Nat := match zrf f with
  | some (.object c) => if c = "MusicWalls$House" then 3 else 4
  | _ => 0
def zQ0 (K : zM → Prop) : zQ := fun v μ => match v with
  | none => K μ
  | _ => False
def zQ1 (K : Int → zM → Prop) : zQ := fun v μ => match v with
  | some (.inl x) => K x μ
  | _ => False
def zQ4 (t : Nat) (K : Nat → zM → Prop) : zQ := fun v μ => match v with
  | some (.inr (.inr (u, i))) => if u = t then K i μ else False
  | _ => False
def zQm (f : Nat) (nx : List zV → zM → Prop) : zQ := match zmk f with
  | 0 => zQ0 (nx [])
  | 1 => zQ1 (fun x μ => nx [zI x] μ)
  | 2 => zQ1 (fun x μ => nx [zI x] μ)
  | 4 => zQ4 (zrg f) (fun i μ => nx [zR (zrg f) i] μ)
  | _ => fun _ _ => False
def zst (go : Nat → zP) (nx : zP) (call : Nat → List zV → zM → zQ → Prop) (nat : Prop → Prop) (Q : zQ) (mk : Nat) (Γ : zG) (e : zE) (ls : List (Option zV)) (st : List zV) (μ : zM) : Prop :=
  match zsx zfk zrt zak zal Γ e.2.2.1 e.2.2.2.1 e.2.2.2.2.1 e.2.2.2.2.2 ls st μ with
  | some (none, ls', st', μ') => nx ls' st' μ'
  | some (some P, ls', st', μ') => P ∧ nx ls' st' μ'
  | none => match zbx e.2.2.1 st with
    | some (c, o, st') => (c → go ((e.1 : Int) + o).toNat ls st' μ) ∧ (¬ c → nx ls st' μ)
    | none => match zcx zak Γ e.2.2.1 e.2.2.2.1 e.2.2.2.2.1 e.2.2.2.2.2 st with
      | some (f, as, r) => call f as μ (zQm f (fun v μ' => nx ls (v ++ r) μ'))
      | none => zox zak zal (fun o st' => go ((e.1 : Int) + o).toNat ls st' μ) (fun st' μ' => nat (nx ls st' μ')) Q mk e.2.2.1 e.2.2.2.1 st μ
theorem zQ0_mono {K K' : zM → Prop} (h : ∀ μ, K μ → K' μ) (v : Option zV) (μ : zM) : zQ0 K v μ → zQ0 K' v μ := by
  unfold zQ0; split <;> first | exact h _ | exact id
theorem zQ1_mono {K K' : Int → zM → Prop} (h : ∀ x μ, K x μ → K' x μ) (v : Option zV) (μ : zM) : zQ1 K v μ → zQ1 K' v μ := by
  unfold zQ1; split <;> first | exact h _ _ | exact id
theorem zQ4_mono {t : Nat} {K K' : Nat → zM → Prop} (h : ∀ x μ, K x μ → K' x μ) (v : Option zV) (μ : zM) : zQ4 t K v μ → zQ4 t K' v μ := by
  unfold zQ4; split
  · split <;> first | exact h _ _ | exact id
  · exact id
theorem zQm_mono {f : Nat} {nx nx' : List zV → zM → Prop} (h : ∀ v μ, nx v μ → nx' v μ) (v : Option zV) (μ : zM) : zQm f nx v μ → zQm f nx' v μ := by
  unfold zQm
  generalize zmk f = k
  rcases k with _ | _ | _ | _ | _ | k
  · exact zQ0_mono (h _) v μ
  · exact zQ1_mono (fun _ => h _) v μ
  · exact zQ1_mono (fun _ => h _) v μ
  · exact id
  · exact zQ4_mono (fun _ => h _) v μ
  · exact id
theorem zswt_mono {go go' : Int → Prop} (h : ∀ o, go o → go' o) (x : Int) : ∀ (os : List Int) (j : Int), zswt go x j os → zswt go' x j os
  | [], _, _ => trivial
  | _ :: r, j, q => ⟨fun e => h _ (q.1 e), zswt_mono h x r (j + 1) q.2⟩
theorem zlks_mono {go go' : Int → Prop} (h : ∀ o, go o → go' o) (x d : Int) : ∀ (ps : List (Int × Int)), zlks go x d ps → zlks go' x d ps
  | [], q => h _ q
  | _ :: r, q => ⟨fun e => h _ (q.1 e), fun e => zlks_mono h x d r (q.2 e)⟩
theorem zox_mono {go go' : Int → List zV → Prop} {nx nx' : List zV → zM → Prop} {Q Q' : zQ} (h1 : ∀ o st, go o st → go' o st) (h2 : ∀ st μ, nx st μ → nx' st μ) (h3 : ∀ v μ, Q v μ → Q' v μ) (mk : Nat) (i : Instr) (a : Nat) (st : List zV) (μ : zM) :
    zox zak zal go nx Q mk i a st μ → zox zak zal go' nx' Q' mk i a st μ := by
  unfold zox
  split
  · exact h1 _ _
  · split
    · exact h1 _ _
    · exact id
  · split
    · exact fun q => ⟨fun e => h1 _ _ (q.1 e), zswt_mono (fun o => h1 o _) _ _ _ q.2⟩
    · exact id
  · split
    · exact zlks_mono (fun o => h1 o _) _ _ _
    · exact id
  · split
    · split
      · exact h3 _ _
      · exact id
    · exact id
  · split
    · split
      · exact h3 _ _
      · exact fun q => ⟨q.1, h3 _ _ q.2⟩
      · exact id
    · exact id
  · split
    · split
      · exact h3 _ _
      · exact id
    · exact id
  · split
    · split
      · split
        · split
          · exact fun q => ⟨q.1, h2 _ _ q.2⟩
          · exact id
        · exact id
      · exact id
    · split
      · split <;> first | exact h2 _ _ | exact id
      · exact id
    · split
      · split <;> first | exact h2 _ _ | exact id
      · exact id
    · split
      · split <;> first | exact h2 _ _ | exact id
      · exact id
    · exact id
  · exact id
theorem zst_mono {go go' : Nat → zP} {nx nx' : zP} {call call' : Nat → List zV → zM → zQ → Prop} {nat nat' : Prop → Prop} {Q Q' : zQ} (h1 : ∀ pc ls st μ, go pc ls st μ → go' pc ls st μ) (h2 : ∀ ls st μ, nx ls st μ → nx' ls st μ)
    (h3 : ∀ f as μ K K', (∀ v μ, K v μ → K' v μ) → call f as μ K → call' f as μ K') (h4 : ∀ a b : Prop, (a → b) → nat a → nat' b) (h5 : ∀ v μ, Q v μ → Q' v μ) (mk : Nat) (Γ : zG) (e : zE) (ls : List (Option zV)) (st : List zV) (μ : zM) :
    zst go nx call nat Q mk Γ e ls st μ → zst go' nx' call' nat' Q' mk Γ e ls st μ := by
  unfold zst
  split
  · exact h2 _ _ _
  · exact fun q => ⟨q.1, h2 _ _ _ q.2⟩
  · split
    · exact fun q => ⟨fun c => h1 _ _ _ _ (q.1 c), fun c => h2 _ _ _ (q.2 c)⟩
    · split
      · exact h3 _ _ _ _ _ (zQm_mono fun v μ => h2 _ _ _)
      · exact zox_mono (fun o st => h1 _ _ _ _) (fun st μ => h4 _ _ (h2 _ _ _)) h5 _ _ _ _ _
abbrev zX : Type := zG → Nat → Nat → List zE → List (Option zV) → List zV → zM → zQ → Prop
/-- one step of X: jumps, what comes next, calls (one frame less; no script) -/
def zcall (X : zX) (d : Nat) (f : Nat) (as : List zV) (μ : zM) (K : zQ) : Prop := match d with
  | 0 => False
  | d' + 1 => match Nat.ble (zexp as).length (zml f) with
    | true => X none d' f (zcode f) (zpad (zml f) (zexp as)) [] μ K
    | false => False
theorem zcall_mo' {X X' : zX} {d f : Nat} {as : List zV} {μ : zM} {K K' : zQ} (h : ∀ d', d = d' + 1 → X none d' f (zcode f) (zpad (zml f) (zexp as)) [] μ K → X' none d' f (zcode f) (zpad (zml f) (zexp as)) [] μ K') : zcall X d f as μ K → zcall X' d f as μ K' := by
  unfold zcall
  cases d with
  | zero => exact id
  | succ d' =>
    dsimp only
    cases Nat.ble (zexp as).length (zml f) with
    | false => exact id
    | true => exact h d' rfl
def znat (d : Nat) (p : Prop) : Prop := match d with
  | 0 => False
  | _ + 1 => p
def zstep (X : zX) (Γ : zG) (d m : Nat) (e : zE) (r : List zE) (ls : List (Option zV)) (st : List zV) (μ : zM) (Q : zQ) : Prop :=
  zst (fun pc ls st μ => X Γ d m (zsf m pc) ls st μ Q) (fun ls st μ => X Γ d m r ls st μ Q) (zcall X d) (znat d) Q (zmk m) Γ e ls st μ
def zMo (X : zX) : Prop := ∀ Γ d m es ls st μ Q Q', (∀ v μ, Q v μ → Q' v μ) → X Γ d m es ls st μ Q → X Γ d m es ls st μ Q'
def zCl (X : zX) : Prop := ∀ Γ d m e r ls st μ Q, zstep X Γ d m e r ls st μ Q → X Γ d m (e :: r) ls st μ Q
def zMk (X : zX) : Prop := ∀ Γ d m es b ls st μ Q, X Γ d m es (zmask b ls) st μ Q → X Γ d m es ls st μ Q
/-- the least one: it comes to its end, with Q -/
def zW : zX := fun Γ d m es ls st μ Q => ∀ X : zX, zMo X → zCl X → zMk X → X Γ d m es ls st μ Q
theorem zW_mo : zMo zW := fun _ _ _ _ _ _ _ _ _ h w X hm hc hk => hm _ _ _ _ _ _ _ _ _ h (w X hm hc hk)
theorem zW_mk : zMk zW := fun _ _ _ _ _ _ _ _ _ w X hm hc hk => hk _ _ _ _ _ _ _ _ _ (w X hm hc hk)
theorem znat_mo (d : Nat) (a b : Prop) (h : a → b) : znat d a → znat d b := by
  cases d
  · exact id
  · exact h
theorem zW_cl : zCl zW := by
  intro Γ d m e r ls st μ Q h X hm hc hk
  refine hc _ _ _ _ _ _ _ _ _ (zst_mono (fun _ _ _ _ w => w X hm hc hk) (fun _ _ _ w => w X hm hc hk) ?_ (znat_mo d) (fun _ _ q => q) _ _ _ _ _ _ h)
  intro f as μ K K' hK
  exact zcall_mo' fun d' _ w => hm _ _ _ _ _ _ _ _ _ hK (w X hm hc hk)
/-- more depth does no harm -/
theorem zW_up : ∀ Γ d m es ls st μ Q, zW Γ d m es ls st μ Q → ∀ k, zW Γ (d + k) m es ls st μ Q := by
  intro Γ d m es ls st μ Q w
  refine w (fun Γ d m es ls st μ Q => ∀ k, zW Γ (d + k) m es ls st μ Q) ?_ ?_ (fun _ _ _ _ _ _ _ _ _ q k => zW_mk _ _ _ _ _ _ _ _ _ (q k))
  · exact fun _ _ _ _ _ _ _ _ _ h q k => zW_mo _ _ _ _ _ _ _ _ _ h (q k)
  · intro Γ d m e r ls st μ Q h k
    refine zW_cl _ _ _ _ _ _ _ _ _ (zst_mono (fun _ _ _ _ w => w k) (fun _ _ _ w => w k) ?_ ?_ (fun _ _ q => q) _ _ _ _ _ _ h)
    · intro f as μ K K' hK w
      cases d with
      | zero => exact w.elim
      | succ d =>
        rw [show d + 1 + k = (d + k) + 1 by omega]
        unfold zcall at w ⊢
        dsimp only at w ⊢
        cases hb : Nat.ble (zexp as).length (zml f) with
        | false => rw [hb] at w; exact w
        | true => rw [hb] at w; exact zW_mo _ _ _ _ _ _ _ _ _ hK (w k)
    · intro a b hab q
      cases d with
      | zero => exact q.elim
      | succ d =>
        rw [show d + 1 + k = (d + k) + 1 by omega]
        exact hab q
/-! the way from here to the next heads, ends and calls, computed -/
def zmem : Nat → List (Nat × List Bool) → Option (List Bool)
  | _, [] => none
  | x, a :: l => match Nat.beq x a.1 with
    | true => some a.2
    | false => zmem x l
def zvg (hs : List (Nat × List Bool)) (Γ : zG) (d m : Nat) (Q : zQ) : Nat → List zE → zP
  | 0, es, ls, st, μ => zW Γ d m es ls st μ Q
  | n + 1, [], _, _, _ => False
  | n + 1, e :: r, ls, st, μ => match zmem e.1 hs with
    | some b => zW Γ d m (e :: r) (zmask b ls) st μ Q
    | none => zst (fun pc ls st μ => zvg hs Γ d m Q n (zsf m pc) ls st μ) (fun ls st μ => zvg hs Γ d m Q n r ls st μ) (zcall zW d) (znat d) Q (zmk m) Γ e ls st μ
def zv1 (hs : List (Nat × List Bool)) (Γ : zG) (d m : Nat) (Q : zQ) (n : Nat) (es : List zE) : zP := fun ls st μ => match es with
  | [] => False
  | e :: r => zst (fun pc ls st μ => zvg hs Γ d m Q n (zsf m pc) ls st μ) (fun ls st μ => zvg hs Γ d m Q n r ls st μ) (zcall zW d) (znat d) Q (zmk m) Γ e ls st μ
theorem zcall_mo (d f : Nat) (as : List zV) (μ : zM) (K K' : zQ) (hK : ∀ v μ, K v μ → K' v μ) : zcall zW d f as μ K → zcall zW d f as μ K' := zcall_mo' fun _ _ => zW_mo _ _ _ _ _ _ _ _ _ hK
theorem zvg_ok (hs : List (Nat × List Bool)) (Γ : zG) (d m : Nat) (Q : zQ) : ∀ (n : Nat) (es : List zE) (ls : List (Option zV)) (st : List zV) (μ : zM), zvg hs Γ d m Q n es ls st μ → zW Γ d m es ls st μ Q
  | 0, _, _, _, _, h => h
  | n + 1, [], _, _, _, h => h.elim
  | n + 1, e :: r, ls, st, μ, h => by
    unfold zvg at h
    split at h
    · exact zW_mk _ _ _ _ _ _ _ _ _ h
    · exact zW_cl _ _ _ _ _ _ _ _ _ (zst_mono (fun _ _ _ _ w => zvg_ok hs Γ d m Q n _ _ _ _ w) (fun _ _ _ w => zvg_ok hs Γ d m Q n _ _ _ _ w) (zcall_mo d) (znat_mo d) (fun _ _ q => q) _ _ _ _ _ _ h)
theorem zgo {Γ : zG} {d m : Nat} {Q : zQ} {es : List zE} {ls : List (Option zV)} {st : List zV} {μ : zM} (hs : List (Nat × List Bool)) (n : Nat) (h : zv1 hs Γ d m Q n es ls st μ) : zW Γ d m es ls st μ Q := by
  cases es with
  | nil => exact h.elim
  | cons e r => exact zW_cl _ _ _ _ _ _ _ _ _ (zst_mono (fun _ _ _ _ w => zvg_ok hs Γ d m Q n _ _ _ _ w) (fun _ _ _ w => zvg_ok hs Γ d m Q n _ _ _ _ w) (zcall_mo d) (znat_mo d) (fun _ _ q => q) _ _ _ _ _ _ h)
/-- at a place of a method -/
abbrev zJ (d m pc : Nat) (ls : List (Option zV)) (μ : zM) (Q : zQ) : Prop := zW none d m (zsf m pc) ls [] μ Q
/-- calls: of nothing, of a number, of a reference -/
abbrev zC0 (d f : Nat) (as : List zV) (μ : zM) (K : zM → Prop) : Prop := zW none d f (zcode f) (zpad (zml f) (zexp as)) [] μ (zQ0 K)
abbrev zC1 (d f : Nat) (as : List zV) (μ : zM) (K : Int → zM → Prop) : Prop := zW none d f (zcode f) (zpad (zml f) (zexp as)) [] μ (zQ1 K)
abbrev zC4 (d f : Nat) (as : List zV) (μ : zM) (t : Nat) (K : Nat → zM → Prop) : Prop := zW none d f (zcode f) (zpad (zml f) (zexp as)) [] μ (zQ4 t K)
/-! a try -/
theorem zt_at (d j : Nat) (i : Int) (μ : zM) (K : Int → zM → Prop) (h : (i < 0 → K 0 μ) ∧ (¬ i < 0 → (i ≥ 6 → K 0 μ) ∧ (¬ i ≥ 6 → (0 ≤ i ∧ i < 6) ∧ K (μ 10 j i.toNat) μ))) : zC1 d m_X9_at [zR 10 j, zI i] μ K := zgo [] 200 h
theorem zt_barsOf (d j : Nat) (i : Int) (μ : zM) (K : Int → zM → Prop) (h : zC1 d m_X9_at [zR 10 j, zI i] μ K) : zC1 (d + 1) m_X1_barsOf [zR 3 j, zI i] μ K := zgo [] 200 h
