/-! ===== 11: further rules, the form of the pure functions ===== -/
def dp_R (rv : Option dp_V) (h1 : dp_H) : Option dp_V → dp_H → Prop := fun r h' => r = rv ∧ h' = h1
def dp_mask : List Bool → List (Option dp_V) → List (Option dp_V)
  | true :: m, x :: L => x :: dp_mask m L
  | false :: m, _ :: L => none :: dp_mask m L
  | _, _ => []
theorem dp_mask_at : ∀ (m : List Bool) (L : List (Option dp_V)) (i : Nat) (v : dp_V), (dp_mask m L)[i]? = some (some v) → L[i]? = some (some v)
  | [], L, i, v, h => by simp [dp_mask] at h
  | true :: m, [], i, v, h => by simp [dp_mask] at h
  | false :: m, [], i, v, h => by simp [dp_mask] at h
  | true :: m, x :: L, 0, v, h => h
  | true :: m, x :: L, i + 1, v, h => dp_mask_at m L i v h
  | false :: m, x :: L, 0, v, h => by cases h
  | false :: m, x :: L, i + 1, v, h => dp_mask_at m L i v h
theorem dp_ite {α : Type} {P : Prop} [Decidable P] {A : Option α} {o : α} (h : (if P then A else none) = some o) : P ∧ A = some o := by
  by_cases c : P
  · rw [if_pos c] at h
    exact ⟨c, h⟩
  · rw [if_neg c] at h
    cases h
theorem dp_ite0 {α : Type} {P : Prop} [Decidable P] {A : Option α} {o : α} (h : (if P then none else A) = some o) : ¬ P ∧ A = some o := by
  by_cases c : P
  · rw [if_pos c] at h
    cases h
  · rw [if_neg c] at h
    exact ⟨c, h⟩
theorem dp_ip {α : Type} {P : Prop} [Decidable P] {A B : Option α} {o : α} (c : P) (h : (if P then A else B) = some o) : A = some o := by
  rw [if_pos c] at h
  exact h
theorem dp_ic {α : Type} {P : Prop} [Decidable P] {A B : Option α} {o : α} (c : ¬ P) (h : (if P then A else B) = some o) : B = some o := by
  rw [if_neg c] at h
  exact h
def dp_bd {α β : Type} (x : Option α) (f : α → Option β) : Option β := match x with
  | some a => f a
  | none => none
theorem dp_bd_inv {α β : Type} {x : Option α} {f : α → Option β} {o : β} (h : dp_bd x f = some o) : ∃ a, x = some a ∧ f a = some o := by
  cases x with
  | none => cases h
  | some a => exact ⟨a, rfl, h⟩
def dp_inb (i : Int32) (n : Nat) : Bool := decide (¬ (i < 0 ∨ n ≤ i.toNatClampNeg))
theorem dp_inb_in {i : Int32} {n : Nat} (h : dp_inb i n = true) : vp_in i n := by unfold vp_in; exact of_decide_eq_true h
def dp_cpk (sp dp n : Int32) (n0 n1 : Nat) : Bool := decide ((¬ sp < 0 ∧ ¬ dp < 0 ∧ ¬ n < 0) ∧ sp.toNatClampNeg + n.toNatClampNeg ≤ n0 ∧ dp.toNatClampNeg + n.toNatClampNeg ≤ n1)
def dp_loop {σ ρ : Type} (body : σ → Option (σ ⊕ ρ)) : Nat → σ → Option ρ
  | 0, _ => none
  | n + 1, x => match body x with
    | some (.inl y) => dp_loop body n y
    | some (.inr r) => some r
    | none => none
def dp_F : Nat := 10000
def dp_LK {σ ρ : Type} (P : σ → Prop) (K : ρ → Prop) (o : σ ⊕ ρ) : Prop := match o with
  | .inl x => P x
  | .inr r => K r
theorem dp_loopW {σ ρ : Type} {body : σ → Option (σ ⊕ ρ)} {P : σ → Prop} {K : ρ → Prop} (hb : ∀ x o, body x = some o → dp_LK P K o → P x) : ∀ n x r, dp_loop body n x = some r → K r → P x
  | 0, x, r, h, _ => by cases h
  | n + 1, x, r, h, hk => by
    unfold dp_loop at h
    cases hx : body x with
    | none => rw [hx] at h; cases h
    | some o =>
      rw [hx] at h
      cases o with
      | inl y => exact hb x _ hx (dp_loopW hb n y r h hk)
      | inr z => cases h; exact hb x _ hx hk
abbrev dp_Z : Type := (Nat → Int32) × (Nat → Nat → Int32)
def dp_sf (s : dp_Z) (k : Nat) (x : Int32) : dp_Z := (upd s.1 k x, s.2)
def dp_sr (s : dp_Z) (a : Nat) (f : Nat → Int32) : dp_Z := (s.1, fun c => if c = a then f else s.2 c)
def dp_z0 : dp_Z := (fun _ => 0, fun _ _ => 0)
section DM
variable {d d' : Nat} {M N : dp_M} {al : Bool} {h0 : dp_H} {mc ms : Nat} {post : Option dp_V → dp_H → Prop} {k n : Nat} {pc : Nat} {L L' : List (Option dp_V)} {st : List dp_V} {h h1 : dp_H} {as r : List dp_V} {q idx : Nat} {rv : Option dp_V}
theorem dp_fg (m : List Bool) (hm : dp_mask m L = L') (hl : L'.length = L.length) (kk : dp_W d M al h0 mc ms post k n (pc, L', st, h)) : dp_W d M al h0 mc ms post k n (pc, L, st, h) := by
  subst hm
  intro p l e s m args below meth c D cI cZ b E ha H locs ls h2 h3 h4 h5
  refine kk p l e s m args below meth c D cI cZ b E ha H locs ls h2 h3 h4 ⟨⟨h5.1.1, h5.1.2.1, fun q hq => ?_⟩, hl.trans h5.2⟩
  obtain ⟨i, v, hi, rfl⟩ := dp_lv_mem.mp hq
  exact h5.at (dp_mask_at _ _ i v hi)
theorem dp_cV (hM : dp_ok M) (hN : dp_ok N) {len a b' f : Nat} {v : Int32} (ht : M.2.2.2.2.2[pc]? = some (some (.invokevirtual idx, len, a, b', f, v))) (hlk : dp_Lv M.1 idx N.2.1) (hnp : dp_np N.2.1 as.length) (hC : dp_C d' N false (.inr (some q) :: as) h 0 0 (dp_R rv h1))
    {ci : Nat} {fs : List dp_V} {C : vw_C} (hq : h[q]? = some (.inr (ci, fs))) (hc : vwCl[ci]? = some C) (hc2 : C.1 = N.1) (hst : st = as.reverse ++ .inr (some q) :: r) (hr : r.length ≤ 8) (hd : d' + 1 ≤ d) (hk : k ≤ mc) (hn : n ≤ ms)
    (kk : dp_W d M al h0 mc ms post k n (pc + 3, L, rv.toList ++ r, h1)) : dp_W d M al h0 mc ms post k n (pc, L, st, h) :=
  dp_callV hM hN ht hlk hnp hC hq hc hc2 hst hr hd hk hn (fun z => by cases z) (fun _ _ hp => by obtain ⟨rfl, rfl⟩ := hp; exact kk)
theorem dp_cVN (hM : dp_ok M) (hN : dp_ok N) {len a b' f : Nat} {v : Int32} (ht : M.2.2.2.2.2[pc]? = some (some (.invokevirtual idx, len, a, b', f, v))) (hlk : dp_Lvn M.1 idx N.2.1) (hnp : dp_np N.2.1 as.length) (hC : dp_C d' N false (.inr (some q) :: as) h 0 0 (dp_R rv h1))
    {ci : Nat} {fs : List dp_V} {C : vw_C} (hq : h[q]? = some (.inr (ci, fs))) (hc : vwCl[ci]? = some C) (hc2 : C.1 = N.1) (hst : st = as.reverse ++ .inr (some q) :: r) (hr : r.length ≤ 8) (hd : d' + 1 ≤ d) (hk : k ≤ mc) (hn : n ≤ ms)
    (kk : dp_W d M al h0 mc ms post k n (pc + 3, L, rv.toList ++ r, h1)) : dp_W d M al h0 mc ms post k n (pc, L, st, h) :=
  dp_callVN hM hN ht hlk hnp hC hq hc hc2 hst hr hd hk hn (fun _ _ hp => by obtain ⟨rfl, rfl⟩ := hp; exact kk)
theorem dp_cS (hM : dp_ok M) (hN : dp_ok N) {len a b' f : Nat} {v : Int32} (ht : M.2.2.2.2.2[pc]? = some (some (.invokestatic idx, len, a, b', f, v))) (hlk : dp_Ls M.1 idx N.2.1) (hnp : dp_np N.2.1 as.length) (hC : dp_C d' N false as h 0 0 (dp_R rv h1))
    (hst : st = as.reverse ++ r) (hr : r.length ≤ 8) (hd : d' + 1 ≤ d) (hk : k ≤ mc) (hn : n ≤ ms)
    (kk : dp_W d M al h0 mc ms post k n (pc + 3, L, rv.toList ++ r, h1)) : dp_W d M al h0 mc ms post k n (pc, L, st, h) :=
  dp_callS hM hN ht hlk hnp hC hst hr hd hk hn (fun _ _ hp => by obtain ⟨rfl, rfl⟩ := hp; exact kk)
theorem dp_cSN (hM : dp_ok M) (hN : dp_ok N) {len a b' f : Nat} {v : Int32} (ht : M.2.2.2.2.2[pc]? = some (some (.invokestatic idx, len, a, b', f, v))) (hlk : dp_Lsn M.1 idx N.2.1) (hnp : dp_np N.2.1 as.length) (hC : dp_C d' N false as h 0 0 (dp_R rv h1))
    (hst : st = as.reverse ++ r) (hr : r.length ≤ 8) (hd : d' + 1 ≤ d) (hk : k ≤ mc) (hn : n ≤ ms)
    (kk : dp_W d M al h0 mc ms post k n (pc + 3, L, rv.toList ++ r, h1)) : dp_W d M al h0 mc ms post k n (pc, L, st, h) :=
  dp_callSN hM hN ht hlk hnp hC hst hr hd hk hn (fun _ _ hp => by obtain ⟨rfl, rfl⟩ := hp; exact kk)
theorem dp_mmax (hM : dp_ok M) {len a b' f : Nat} {v x y : Int32} (ht : M.2.2.2.2.2[pc]? = some (some (.invokestatic idx, len, a, b', f, v))) (h1 : Cond.methodLink M.1 idx Lib.Math.max.name ∈ dp_g) (h2 : Cond.static Lib.Math.max.name ∈ dp_g) (h3 : Cond.initialized "java/lang/Math" ∈ dp_g) (h4 : Cond.code Lib.Math.max.name Lib.Math.max.code 2 (some .int) ∈ dp_g)
    (hr : r.length ≤ 8) (hd : 1 ≤ d) (hk : k ≤ mc) (hn : n ≤ ms) (kk : dp_W d M al h0 mc ms post k n (pc + 3, L, .inl (if x < y then y else x) :: r, h)) : dp_W d M al h0 mc ms post k n (pc, L, .inl y :: .inl x :: r, h) := by
  obtain ⟨hdc, hlen, -⟩ := dp_X_of hM ht
  dsimp only at hdc hlen
  obtain rfl := dp_lenE hlen rfl
  intro p l e s m args below meth c D cI cZ b E ha H locs ls u2 u3 u4 u5
  have E0 := E
  obtain ⟨hx, hb, hml, -, -, -, hown, hts, hnw, hK⟩ := E0
  exact va_mmax (rest := r.map (dp_cv b)) hx hb (by rw [hml]; exact u5.1.1.symm) hown (hts _ h1) (hts _ h2) (hts _ h3) (hts _ h4) hd (by
    rw [dp_catsum]
    show r.length + 13 ≤ 40 * d
    omega) hk hn hdc (kk p l e s m args below meth c D cI cZ b E ha H locs ls u2 u3 u4 u5)
theorem dp_mabs (hM : dp_ok M) {len a b' f : Nat} {v x : Int32} (ht : M.2.2.2.2.2[pc]? = some (some (.invokestatic idx, len, a, b', f, v))) (h1 : Cond.methodLink M.1 idx Lib.Math.abs.name ∈ dp_g) (h2 : Cond.static Lib.Math.abs.name ∈ dp_g) (h3 : Cond.initialized "java/lang/Math" ∈ dp_g) (h4 : Cond.code Lib.Math.abs.name Lib.Math.abs.code 1 (some .int) ∈ dp_g)
    (hr : r.length ≤ 8) (hd : 1 ≤ d) (hk : k ≤ mc) (hn : n ≤ ms) (kk : dp_W d M al h0 mc ms post k n (pc + 3, L, .inl (if 0 ≤ x then x else 0 - x) :: r, h)) : dp_W d M al h0 mc ms post k n (pc, L, .inl x :: r, h) := by
  obtain ⟨hdc, hlen, -⟩ := dp_X_of hM ht
  dsimp only at hdc hlen
  obtain rfl := dp_lenE hlen rfl
  intro p l e s m args below meth c D cI cZ b E ha H locs ls u2 u3 u4 u5
  have E0 := E
  obtain ⟨hx, hb, hml, -, -, -, hown, hts, hnw, hK⟩ := E0
  exact va_mabs (rest := r.map (dp_cv b)) hx hb (by rw [hml]; exact u5.1.1.symm) hown (hts _ h1) (hts _ h2) (hts _ h3) (hts _ h4) hd (by
    rw [dp_catsum]
    show r.length + 13 ≤ 40 * d
    omega) hk hn hdc (kk p l e s m args below meth c D cI cZ b E ha H locs ls u2 u3 u4 u5)
end DM
