/-! ===== 03: the deep machine: abstract values, cells, states; its steps; what they mean ===== -/
abbrev dp_V : Type := Int32 ⊕ Option Nat
abbrev dp_Cl : Type := (Bool × Nat × (Nat → Int32)) ⊕ (Nat × List dp_V)
abbrev dp_H : Type := List dp_Cl
abbrev dp_In : Type := Instr × Nat × Nat × Nat × Nat × Int32
abbrev dp_M : Type := String × MethodName × ByteArray × Nat × Option FieldType × List (Option dp_In)
abbrev dp_S : Type := Nat × List (Option dp_V) × List dp_V × dp_H
def dp_cv (b : Nat) (v : dp_V) : Value := match v with
  | .inl x => .int x
  | .inr none => .null
  | .inr (some k) => .ref (b + k)
theorem dp_cat (b : Nat) (v : dp_V) : (dp_cv b v).category = 1 := by
  rcases v with x | _ | k <;> rfl
def dp_ce (cI cZ : ClassId) (b : Nat) (q : dp_Cl) : va_E := match q with
  | .inl (z, n, f) => .inl (if z = true then cZ else cI, n, .inl f)
  | .inr (ci, fs) => .inr (ci, fs.map (dp_cv b))
def dp_ws (cI cZ : ClassId) (b : Nat) (h : dp_H) : va_W := h.mapIdx (fun k q => (b + k, dp_ce cI cZ b q))
section DW
variable {cI cZ : ClassId} {b : Nat} {h : dp_H}
theorem dp_ws_at {k : Nat} {q : dp_Cl} (hk : h[k]? = some q) : (dp_ws cI cZ b h)[k]? = some (b + k, dp_ce cI cZ b q) := by
  simp [dp_ws, hk]
theorem dp_ws_inv {k : Nat} {x : Nat × va_E} (hk : (dp_ws cI cZ b h)[k]? = some x) : ∃ q, h[k]? = some q ∧ x = (b + k, dp_ce cI cZ b q) := by
  cases hq : h[k]? with
  | none => simp [dp_ws, hq] at hk
  | some q =>
    rw [dp_ws_at hq] at hk
    exact ⟨q, rfl, (Option.some.inj hk).symm⟩
theorem dp_ws_set (k : Nat) (q : dp_Cl) : (dp_ws cI cZ b h).set k (b + k, dp_ce cI cZ b q) = dp_ws cI cZ b (h.set k q) := by
  unfold dp_ws
  rw [List.mapIdx_set]
theorem dp_ws_push (q : dp_Cl) : dp_ws cI cZ b h ++ [(b + h.length, dp_ce cI cZ b q)] = dp_ws cI cZ b (h ++ [q]) := by
  unfold dp_ws
  rw [List.mapIdx_concat]
theorem dp_D1 {A : Nat → Prop} (hA : ∀ k, k < h.length → A (b + k)) : va_D A (dp_ws cI cZ b h) := by
  refine ⟨fun i j x y hi hj hxy => ?_, fun k x hk => ?_⟩
  · obtain ⟨q, -, rfl⟩ := dp_ws_inv hi
    obtain ⟨q', -, rfl⟩ := dp_ws_inv hj
    have : b + i = b + j := hxy
    omega
  · obtain ⟨q, hq, rfl⟩ := dp_ws_inv hk
    exact hA k (List.getElem?_eq_some_iff.mp hq).1
theorem dp_D0 {sz : Nat} : va_D (va_A (dp_ws cI cZ b h) sz) (dp_ws cI cZ b h) := dp_D1 (fun k hk => Or.inl ⟨k, _, dp_ws_at (List.getElem?_eq_getElem hk)⟩)
end DW
/-- the listed locals -/
def dp_lv (b : Nat) (L : List (Option dp_V)) : List (Nat × Value) := L.zipIdx.filterMap (fun q => q.1.map (fun v => (q.2, dp_cv b v)))
theorem dp_lv_mem {b : Nat} {L : List (Option dp_V)} {q : Nat × Value} : q ∈ dp_lv b L ↔ ∃ i v, L[i]? = some (some v) ∧ q = (i, dp_cv b v) := by
  unfold dp_lv
  rw [List.mem_filterMap]
  constructor
  · rintro ⟨⟨o, i⟩, h1, h2⟩
    have h3 := List.mem_zipIdx_iff_getElem?.mp h1
    cases o with
    | none => cases h2
    | some v => exact ⟨i, v, h3, (Option.some.inj h2).symm⟩
  · rintro ⟨i, v, h1, rfl⟩
    exact ⟨(some v, i), List.mem_zipIdx_iff_getElem?.mpr h1, rfl⟩
def dp_L (b : Nat) (ls : Array Slot) (nL : Nat) (L : List (Option dp_V)) : Prop := lv_has ls nL (dp_lv b L) ∧ L.length = nL
theorem dp_L.at {b nL : Nat} {ls : Array Slot} {L : List (Option dp_V)} (h : dp_L b ls nL L) {i : Nat} {v : dp_V} (hi : L[i]? = some (some v)) : ls[i]? = some (.val (dp_cv b v)) := h.1.2.2 (i, dp_cv b v) (dp_lv_mem.mpr ⟨i, v, hi, rfl⟩)
theorem dp_L.set {b nL : Nat} {ls ls' : Array Slot} {L : List (Option dp_V)} (h : dp_L b ls nL L) {i : Nat} {v : dp_V} (h' : lv_has ls' nL ((i, dp_cv b v) :: (dp_lv b L).filter (fun q => !(q.1 == i) && !(q.1 + 1 == i && q.2.category == 2)))) : dp_L b ls' nL (L.set i (some v)) := by
  refine ⟨⟨h'.1, h'.2.1, fun q hq => ?_⟩, by rw [List.length_set]; exact h.2⟩
  obtain ⟨j, w, hj, rfl⟩ := dp_lv_mem.mp hq
  by_cases e : j = i
  · subst e
    have hl : j < L.length := by
      have := (List.getElem?_eq_some_iff.mp hj).1
      rwa [List.length_set] at this
    rw [List.getElem?_set_self hl] at hj
    cases hj
    exact h'.2.2 _ List.mem_cons_self
  · rw [List.getElem?_set_ne (Ne.symm e)] at hj
    refine h'.2.2 _ (List.mem_cons_of_mem _ (List.mem_filter.mpr ⟨dp_lv_mem.mpr ⟨j, w, hj, rfl⟩, ?_⟩))
    have e1 : (j == i) = false := by simpa using e
    simp [e1, dp_cat]
/-! steps -/
def dp_push (n : Nat) (v : dp_V) : dp_S → Option dp_S
  | (pc, L, st, h) => some (pc + n, L, v :: st, h)
def dp_bin (f : Int32 → Int32 → Int32) : dp_S → Option dp_S
  | (pc, L, .inl y :: .inl x :: st, h) => some (pc + 1, L, .inl (f x y) :: st, h)
  | _ => none
def dp_neg : dp_S → Option dp_S
  | (pc, L, .inl x :: st, h) => some (pc + 1, L, .inl (-x) :: st, h)
  | _ => none
def dp_ild (n k : Nat) : dp_S → Option dp_S
  | (pc, L, st, h) => match L[k]? with
    | some (some (.inl x)) => some (pc + n, L, .inl x :: st, h)
    | _ => none
def dp_ald (n k : Nat) : dp_S → Option dp_S
  | (pc, L, st, h) => match L[k]? with
    | some (some (.inr (some q))) => some (pc + n, L, .inr (some q) :: st, h)
    | _ => none
def dp_ist (n k : Nat) : dp_S → Option dp_S
  | (pc, L, .inl x :: st, h) => match L[k]? with
    | some _ => some (pc + n, L.set k (some (.inl x)), st, h)
    | none => none
  | _ => none
def dp_inc (k : Nat) (v : Int32) : dp_S → Option dp_S
  | (pc, L, st, h) => match L[k]? with
    | some (some (.inl x)) => some (pc + 3, L.set k (some (.inl (x + v))), st, h)
    | _ => none
def dp_dup : dp_S → Option dp_S
  | (pc, L, v :: st, h) => some (pc + 1, L, v :: v :: st, h)
  | _ => none
def dp_dup2 : dp_S → Option dp_S
  | (pc, L, v :: w :: st, h) => some (pc + 1, L, v :: w :: v :: w :: st, h)
  | _ => none
def dp_jmp (a : Nat) : dp_S → Option dp_S
  | (_, L, st, h) => some (a, L, st, h)
def dp_gf (ci k : Nat) : dp_S → Option dp_S
  | (pc, L, .inr (some q) :: st, h) => match h[q]? with
    | some (.inr (c, fs)) => if c = ci then (match fs[k]? with
      | some v => some (pc + 3, L, v :: st, h)
      | none => none) else none
    | _ => none
  | _ => none
def dp_pf (ci k : Nat) : dp_S → Option dp_S
  | (pc, L, .inl x :: .inr (some q) :: st, h) => match h[q]? with
    | some (.inr (c, fs)) => if c = ci then (match fs[k]? with
      | some _ => some (pc + 3, L, st, h.set q (.inr (c, fs.set k (.inl x))))
      | none => none) else none
    | _ => none
  | _ => none
/-- a final field of references, in a constructor -/
def dp_pr (ci k : Nat) : dp_S → Option dp_S
  | (pc, L, .inr (some x) :: .inr (some q) :: st, h) => match h[q]? with
    | some (.inr (c, fs)) => if c = ci then (match fs[k]? with
      | some _ => some (pc + 3, L, st, h.set q (.inr (c, fs.set k (.inr (some x)))))
      | none => none) else none
    | _ => none
  | _ => none
def dp_op (i : Instr) (a b f : Nat) (v : Int32) (S : dp_S) : Option dp_S := match i with
  | .iload k => dp_ild 2 k S
  | .iload_n k => dp_ild 1 k.val S
  | .aload_n k => dp_ald 1 k.val S
  | .iconst _ => dp_push 1 (.inl v) S
  | .bipush _ => dp_push 2 (.inl v) S
  | .ldc_w _ => dp_push 3 (.inl v) S
  | .istore k => dp_ist 2 k S
  | .istore_n k => dp_ist 1 k.val S
  | .iinc k _ => dp_inc k v S
  | .iadd => dp_bin (fun x y => x + y) S
  | .isub => dp_bin (fun x y => x - y) S
  | .imul => dp_bin (fun x y => x * y) S
  | .iand => dp_bin (fun x y => x &&& y) S
  | .ior => dp_bin (fun x y => x ||| y) S
  | .ixor => dp_bin (fun x y => x ^^^ y) S
  | .ishl => dp_bin (fun x y => x <<< (y &&& 31)) S
  | .ishr => dp_bin (fun x y => x >>> (y &&& 31)) S
  | .iushr => dp_bin (fun x y => (x.toUInt32 >>> (y.toUInt32 &&& Int32.toUInt32 31)).toInt32) S
  | .ineg => dp_neg S
  | .dup => dp_dup S
  | .dup2 => dp_dup2 S
  | .goto _ => dp_jmp a S
  | .getfield _ => dp_gf a b S
  | .putfield _ => if f = 4 then dp_pr a b S else dp_pf a b S
  | _ => none
def dp_st (M : dp_M) (S : dp_S) : Option dp_S := match M.2.2.2.2.2[S.1]? with
  | some (some (i, _, a, b, f, v)) => dp_op i a b f v S
  | _ => none
def dp_sts (M : dp_M) : Nat → dp_S → Option dp_S
  | 0, S => some S
  | n + 1, S => match dp_st M S with
    | some S' => dp_sts M n S'
    | none => none
/-! the words -/
def dp_isN : Cond → Bool
  | .fieldLinkNest .. => true
  | .methodLinkNest .. => true
  | _ => false
def dp_g : List Cond := lw_tbl.filter goodWord
def dp_nw : List Cond := lw_tbl.filter dp_isN
theorem dp_in {w : Cond} (h : w ∈ lw_tbl) (hg : goodWord w = true) : w ∈ dp_g := List.mem_filter.mpr ⟨h, hg⟩
theorem dp_at {w : Cond} (i : Nat) (h : lw_tbl[i]? = some w) (hg : goodWord w = true) : w ∈ dp_g := dp_in (List.mem_of_getElem? h) hg
theorem dp_nat {w : Cond} (i : Nat) (h : lw_tbl[i]? = some w) (hg : dp_isN w = true) : w ∈ dp_nw := List.mem_filter.mpr ⟨List.mem_of_getElem? h, hg⟩
theorem dp_nw_warm {w : Cond} (hw : w ∈ dp_nw) {s U : State} (hW : s.WarmedH U.vm) (h : va_Nw w s) : va_Nw w U := by
  have hi := (List.mem_filter.mp hw).2
  cases w <;> first | exact va_Nw.warmF hW h | exact va_Nw.warmM hW h | cases hi
theorem dp_nw_use {w : Cond} (hw : w ∈ dp_nw) {s : State} {args : Array Value} (h : va_Nw w s) : w.before args s = true := by
  have hi := (List.mem_filter.mp hw).2
  cases w <;> first | exact va_Nw.use rfl h | cases hi
theorem dp_nw_same {w : Cond} (hw : w ∈ dp_nw) {u U : State} (e : u.vm = U.vm) (h : va_Nw w u) : va_Nw w U := by
  have hi := (List.mem_filter.mp hw).2
  cases w <;> first | exact va_Nw.same rfl e h | cases hi
def dp_CF (q : vw_C) : Prop := (∀ w ∈ u_ws q.1 q.2.1 q.2.2, w ∈ dp_g) ∧ (∃ ty0 : Nat → FieldType, ∀ k, k < q.2.2 → parseFieldDescriptor (q.2.1 k).2.2.1 = some (ty0 k)) ∧ (∀ a, a < q.2.2 → ∀ b, b < q.2.2 → a ≠ b → (q.2.1 a).2.1 ≠ (q.2.1 b).2.1)
/-- a field's link: entry, class, field, flag (0 get, 1 get of a nest mate's, 2 put, 3 put of a nest mate's, 4 put of a final one) -/
def dp_FL (own : String) (x : Nat × Nat × Nat × Nat) : Prop := ∃ q : vw_C, vwCl[x.2.1]? = some q ∧ x.2.2.1 < q.2.2 ∧ dp_CF q ∧ match x.2.2.2 with
  | 0 => Cond.fieldLink own x.1 (q.2.1 x.2.2.1).1 (q.2.1 x.2.2.1).2.1 (q.2.1 x.2.2.1).2.2.1 ∈ dp_g
  | 1 => ∃ host, Cond.fieldLinkNest own x.1 (q.2.1 x.2.2.1).1 (q.2.1 x.2.2.1).2.1 (q.2.1 x.2.2.1).2.2.1 host ∈ dp_nw
  | 2 => Cond.fieldLink own x.1 (q.2.1 x.2.2.1).1 (q.2.1 x.2.2.1).2.1 (q.2.1 x.2.2.1).2.2.1 ∈ dp_g ∧ (q.2.1 x.2.2.1).2.2.2 = false ∧ parseFieldDescriptor (q.2.1 x.2.2.1).2.2.1 = some .int
  | 3 => (∃ host, Cond.fieldLinkNest own x.1 (q.2.1 x.2.2.1).1 (q.2.1 x.2.2.1).2.1 (q.2.1 x.2.2.1).2.2.1 host ∈ dp_nw) ∧ (q.2.1 x.2.2.1).2.2.2 = false ∧ parseFieldDescriptor (q.2.1 x.2.2.1).2.2.1 = some .int
  | _ => Cond.fieldLink own x.1 (q.2.1 x.2.2.1).1 (q.2.1 x.2.2.1).2.1 (q.2.1 x.2.2.1).2.2.1 ∈ dp_g ∧ (q.2.1 x.2.2.1).2.2.2 = true ∧ (q.2.1 x.2.2.1).1 = own ∧ ∃ ty, parseFieldDescriptor (q.2.1 x.2.2.1).2.2.1 = some ty ∧ ∀ a, narrow ty (.ref a) = .ref a ∧ fits ty (.ref a) = true
/-- one entry of a method's table, tested by program -/
def dp_ck1 (fl : List (Nat × Nat × Nat × Nat)) (cs : List (Nat × Int32)) (pc : Nat) (x : dp_In) : Bool := match x with
  | (i, _, a, b, f, v) => match i with
    | .iconst n => Int32.ofInt n == v
    | .bipush n => (Int8.ofInt n).toInt32 == v
    | .ldc_w n => cs.contains (n, v)
    | .iinc _ n => Int32.ofInt n == v
    | .goto o => (pc : Int) + o == (a : Int)
    | .if_icmp _ o => (pc : Int) + o == (a : Int)
    | .ifCond _ o => (pc : Int) + o == (a : Int)
    | .getfield n => decide (f < 2) && fl.contains (n, a, b, f)
    | .putfield n => decide (2 ≤ f) && decide (f ≤ 4) && fl.contains (n, a, b, f)
    | _ => true
def dp_len : Instr → Nat
  | .iload _ => 2
  | .istore _ => 2
  | .bipush _ => 2
  | .newarray _ => 2
  | .iinc _ _ => 3
  | .goto _ => 3
  | .if_icmp _ _ => 3
  | .ifCond _ _ => 3
  | .getfield _ => 3
  | .putfield _ => 3
  | .invokevirtual _ => 3
  | .invokestatic _ => 3
  | .invokespecial _ => 3
  | .ldc_w _ => 3
  | .new _ => 3
  | .tableswitch _ _ _ _ => 0
  | _ => 1
def dp_ck (fl : List (Nat × Nat × Nat × Nat)) (cs : List (Nat × Int32)) (code : ByteArray) : Nat → List (Option dp_In) → Bool
  | _, [] => true
  | pc, none :: r => dp_ck fl cs code (pc + 1) r
  | pc, some x :: r => decide (decode code pc = .ok (x.1, x.2.1)) && (dp_ck1 fl cs pc x && (dp_len x.1 == 0 || x.2.1 == dp_len x.1)) && dp_ck fl cs code (pc + 1) r
theorem dp_ck_at {fl : List (Nat × Nat × Nat × Nat)} {cs : List (Nat × Int32)} {code : ByteArray} : ∀ (t : List (Option dp_In)) (p0 : Nat), dp_ck fl cs code p0 t = true → ∀ (k : Nat) (x : dp_In), t[k]? = some (some x) → decode code (p0 + k) = .ok (x.1, x.2.1) ∧ dp_ck1 fl cs (p0 + k) x = true ∧ (dp_len x.1 = 0 ∨ x.2.1 = dp_len x.1)
  | [], _, _, k, x, hx => by simp at hx
  | none :: r, p0, h, k, x, hx => by
    cases k with
    | zero => simp at hx
    | succ k =>
      rw [List.getElem?_cons_succ] at hx
      have := dp_ck_at r (p0 + 1) h k x hx
      rwa [show p0 + 1 + k = p0 + (k + 1) by omega] at this
  | some y :: r, p0, h, k, x, hx => by
    simp only [dp_ck, Bool.and_eq_true, decide_eq_true_eq, Bool.or_eq_true, beq_iff_eq] at h
    cases k with
    | zero =>
      rw [List.getElem?_cons_zero] at hx
      cases hx
      exact h.1
    | succ k =>
      rw [List.getElem?_cons_succ] at hx
      have := dp_ck_at r (p0 + 1) h.2 k x hx
      rwa [show p0 + 1 + k = p0 + (k + 1) by omega] at this
/-- a method that is well told -/
def dp_ok (M : dp_M) : Prop := (∃ fl cs, dp_ck fl cs M.2.2.1 0 M.2.2.2.2.2 = true ∧ (∀ x ∈ fl, dp_FL M.1 x ∧ (x.2.2.2 = 4 → M.2.1.name = "<init>")) ∧ ∀ x ∈ cs, Cond.constant M.1 x.1 x.2 ∈ dp_g) ∧ M.2.1.cls = M.1 ∧ Cond.code M.2.1 M.2.2.1 M.2.2.2.1 M.2.2.2.2.1 ∈ dp_g ∧ plainName M.1 = true ∧ M.1 ≠ "java/lang/invoke/MethodHandle" ∧ M.1 ≠ "java/lang/invoke/VarHandle" ∧ M.2.2.2.1 ≤ 21
/-- what stays the same through a method's walk -/
def dp_E (M : dp_M) (p : Program) (s : State) (m : MethodId) (args : Array Value) (meth : Method) (c : Code) (D : va_G) (cI cZ : ClassId) : Prop :=
  p.tables.exec = Jvm.exec ∧ c.code = M.2.2.1 ∧ c.maxLocals = M.2.2.2.1 ∧ meth.sig.returnType = M.2.2.2.2.1 ∧ meth.locks = false ∧ meth.name = M.2.1.name ∧ s.vm.findClass M.1 = some m.cls ∧ (∀ w ∈ dp_g, w.before args s = true) ∧ (∀ w ∈ dp_nw, va_Nw w s) ∧ va_K D vwCl [(cI, .int), (cZ, .boolean)] s
def dp_G (p : Program) (l : Launch) (e : Env) (R : Room) (s : State) (m : MethodId) (args : Array Value) (below : List Frame) (meth : Method) (c : Code) (D : va_G) (cI cZ : ClassId) (b : Nat) (A : Nat → Prop) (nL : Nat) (Q : State → Prop) (k n : Nat) (S : dp_S) : Prop :=
  ∀ (H : Heap) (locs : List Loc) (ls : Array Slot), va_P D vwCl (dp_ws cI cZ b S.2.2.2) H → va_D A (dp_ws cI cZ b S.2.2.2) → va_S A s.heap H locs → dp_L b ls nL S.2.1 →
    W p l e R s m args below meth c H locs k n Q (F0 m S.1 ls (S.2.2.1.map (dp_cv b)))
