/-! ===== 05: contracts of the deep machine, and its rules ===== -/
def dp_room (d mc ms : Nat) : Room := { frames := d, cells := mc, slots := ms, locals := 40 * d }
def dp_Q (D : va_G) (cI cZ : ClassId) (b : Nat) (h : dp_H) (sz : Nat) (post : Option dp_V → dp_H → Prop) : Array Value → State → Outcome → State → Prop := fun _ st o t =>
  (∃ (r : Option dp_V) (h' : dp_H), o = .returned (r.map (dp_cv b)) ∧ post r h' ∧ va_P D vwCl (dp_ws cI cZ b h') t.heap ∧ va_D (va_A (dp_ws cI cZ b h) sz) (dp_ws cI cZ b h')) ∧ va_F (va_A (dp_ws cI cZ b h) sz) st t
def dp_w (M : dp_M) : List Cond := .code M.2.1 M.2.2.1 M.2.2.2.1 M.2.2.2.2.1 :: dp_g
def dp_Pc (D : va_G) (cI cZ : ClassId) (b sz : Nat) (al : Bool) (as : List dp_V) (h : dp_H) : Array Value → State → Prop := va_Pc (as.map (dp_cv b)) (fun U => U.heap.size = sz ∧ (al = true → sz = b + h.length) ∧ va_P D vwCl (dp_ws cI cZ b h) U.heap ∧ va_K D vwCl [(cI, .int), (cZ, .boolean)] U ∧ ∀ w ∈ dp_nw, va_Nw w U)
def dp_C (d : Nat) (M : dp_M) (al : Bool) (as : List dp_V) (h : dp_H) (mc ms : Nat) (post : Option dp_V → dp_H → Prop) : Prop :=
  ∀ (l : Launch) (D : va_G) (cI cZ : ClassId) (b sz : Nat), Met l M.2.1 (dp_w M) (dp_room d mc ms) (dp_Pc D cI cZ b sz al as h) (dp_Q D cI cZ b h sz post) mc ms (va_A (dp_ws cI cZ b h) sz)
def dp_W (d : Nat) (M : dp_M) (al : Bool) (h0 : dp_H) (mc ms : Nat) (post : Option dp_V → dp_H → Prop) (k n : Nat) (S : dp_S) : Prop :=
  ∀ (p : Program) (l : Launch) (e : Env) (s : State) (m : MethodId) (args : Array Value) (below : List Frame) (meth : Method) (c : Code) (D : va_G) (cI cZ : ClassId) (b : Nat), dp_E M p s m args meth c D cI cZ → (al = true → s.heap.size = b + h0.length) →
    dp_G p l e (dp_room d mc ms) s m args below meth c D cI cZ b (va_A (dp_ws cI cZ b h0) s.heap.size) M.2.2.2.1 (MQ below (dp_Q D cI cZ b h0 s.heap.size post) args s mc ms (va_A (dp_ws cI cZ b h0) s.heap.size)) k n S
theorem dp_blind {D : va_G} {cI cZ : ClassId} {b sz : Nat} {al : Bool} {as : List dp_V} {h : dp_H} : FrameBlind (dp_Pc D cI cZ b sz al as h) := by
  intro a U g mk q
  obtain ⟨q0, q1, q2, q3, q4, q5⟩ := q
  exact ⟨q0, q1, q2, q3, va_K.moved (u := U) (U := U.calling g mk a) (Vm.Alike.refl U.vm) q4, fun w hw => dp_nw_same (u := U) (U := U.calling g mk a) hw rfl (q5 w hw)⟩
theorem dp_args_mem {b : Nat} : ∀ (as : List dp_V) (i0 i : Nat) (v : dp_V), as[i]? = some v → (i0 + i, dp_cv b v) ∈ lv_args i0 (as.map (dp_cv b))
  | [], _, i, v, h => by simp at h
  | a :: as, i0, 0, v, h => by
    cases h
    exact List.mem_cons_self
  | a :: as, i0, i + 1, v, h => by
    rw [List.getElem?_cons_succ] at h
    have := dp_args_mem (b := b) as (i0 + 1) i v h
    rw [show i0 + (i + 1) = i0 + 1 + i by omega]
    show _ ∈ (i0, dp_cv b a) :: lv_args (if (dp_cv b a).category = 2 then i0 + 2 else i0 + 1) (as.map (dp_cv b))
    rw [dp_cat, if_neg (by decide)]
    exact List.mem_cons_of_mem _ this
theorem dp_sl_len {b : Nat} : ∀ (as : List dp_V), (lg_sl (as.map (dp_cv b))).length = as.length
  | [] => rfl
  | a :: as => by
    show (lg_sl (dp_cv b a :: as.map (dp_cv b))).length = _
    have := dp_sl_len (b := b) as
    unfold lg_sl at this ⊢
    rw [List.flatMap_cons, dp_cat, if_neg (by decide), List.length_append, this]
    simp [Nat.add_comm]
/-- a method's contract out of the walk of its body -/
theorem dp_C_of {d : Nat} {M : dp_M} (hM : dp_ok M) {al : Bool} {as : List dp_V} {h : dp_H} {mc ms : Nat} {post : Option dp_V → dp_H → Prop} (L : List (Option dp_V)) (hL : L = as.map some ++ List.replicate (M.2.2.2.1 - as.length) none) (hn : as.length ≤ M.2.2.2.1)
    (kk : dp_W d M al h mc ms post 0 0 (0, L, [], h)) : dp_C d M al as h mc ms post := by
  subst hL
  intro l D cI cZ b sz
  have hM0 := hM
  obtain ⟨-, hcls, -, hpl, -⟩ := hM0
  refine Met.ofW (cc := M.2.2.1) (maxL := M.2.2.2.1) (ret := M.2.2.2.2.1) (by rw [hcls]; exact hpl) rfl ?_
  intro p e s m args below meth c s₁ B hml hv
  obtain ⟨rfl, rfl, hal, hP, hK, hnw⟩ := hv
  have hts := atoms_spec (ws := dp_w M) B.pre
  have hown : s.vm.findClass M.1 = some m.cls := hcls ▸ findClass_of_methodNamed B.named
  have E : dp_E M p s m ((as.map (dp_cv b)).toArray) meth c D cI cZ := ⟨B.exec, B.bytes, hml, B.returns, B.notSynchronized, (name_of_methodNamed B.named B.method).1, hown, fun w hw => hts w (List.mem_cons_of_mem _ hw), hnw, hK⟩
  have hl := lv_entry (as.map (dp_cv b)) (n := M.2.2.2.1) (by rw [dp_sl_len]; exact hn)
  rw [lg_entry_eq]
  generalize (lg_sl (as.map (dp_cv b)) ++ List.replicate (M.2.2.2.1 - (lg_sl (as.map (dp_cv b))).length) Slot.unset).toArray = ls at hl ⊢
  refine kk p l e s m _ below meth c D cI cZ b E hal s.heap [] ls hP dp_D0 va_S.rf ⟨⟨hl.1, hl.2.1, fun q hq => ?_⟩, by simp; omega⟩
  obtain ⟨i, v, hi, rfl⟩ := dp_lv_mem.mp hq
  have hi2 : as[i]? = some v := by
    by_cases z : i < as.length
    · rw [List.getElem?_append_left (by simpa using z), List.getElem?_map] at hi
      cases h3 : as[i]? with
      | none => rw [h3] at hi; cases hi
      | some w => rw [h3] at hi; cases hi; rfl
    · rw [List.getElem?_append_right (by simpa using z)] at hi
      rw [List.getElem?_replicate] at hi
      split at hi
      · cases hi
      · cases hi
  have := dp_args_mem (b := b) as 0 i v hi2
  rw [Nat.zero_add] at this
  exact hl.2.2 _ this
section DR
variable {d : Nat} {M : dp_M} {al : Bool} {h0 : dp_H} {mc ms : Nat} {post : Option dp_V → dp_H → Prop} {k n : Nat} {pc : Nat} {L : List (Option dp_V)} {st : List dp_V} {h : dp_H}
theorem dp_blk (hM : dp_ok M) (j : Nat) {S S' : dp_S} (hh : dp_sts M j S = some S') (kk : dp_W d M al h0 mc ms post k n S') : dp_W d M al h0 mc ms post k n S := by
  intro p l e s m args below meth c D cI cZ b E ha
  exact dp_sts_G hM E j hh (kk p l e s m args below meth c D cI cZ b E ha)
def dp_cmp (op : ClassFile.Cond) (x y : Int32) : Prop := match op with
  | .eq => x = y
  | .ne => ¬ x = y
  | .lt => x < y
  | .ge => y ≤ x
  | .gt => y < x
  | .le => x ≤ y
def dp_ncmp (op : ClassFile.Cond) (x y : Int32) : Prop := match op with
  | .eq => ¬ x = y
  | .ne => x = y
  | .lt => ¬ x < y
  | .ge => ¬ y ≤ x
  | .gt => ¬ y < x
  | .le => ¬ x ≤ y
theorem dp_if (hM : dp_ok M) {op : ClassFile.Cond} {off : Int} {len a b' f : Nat} {v x y : Int32} (ht : M.2.2.2.2.2[pc]? = some (some (.if_icmp op off, len, a, b', f, v)))
    (kt : dp_cmp op x y → dp_W d M al h0 mc ms post k n (a, L, st, h)) (kf : dp_ncmp op x y → dp_W d M al h0 mc ms post k n (pc + 3, L, st, h)) : dp_W d M al h0 mc ms post k n (pc, L, .inl y :: .inl x :: st, h) := by
  obtain ⟨hd, hlen, fl, cs, hck, -, -⟩ := dp_X_of hM ht
  dsimp only at hd hlen
  obtain rfl := dp_lenE hlen rfl
  have hz : (pc : Int) + off = (a : Int) := by simpa [dp_ck1] using hck
  intro p l e s m args below meth c D cI cZ b E ha H locs ls h2 h3 h4 h5
  have hx := E.1
  have hb := E.2.1
  cases op
  · exact lv_icmp_eq hx hb hd hz (fun c1 => kt c1 p l e s m args below meth c D cI cZ b E ha H locs ls h2 h3 h4 h5) (fun c1 => kf c1 p l e s m args below meth c D cI cZ b E ha H locs ls h2 h3 h4 h5)
  · exact lv_icmp_ne hx hb hd hz (fun c1 => kt c1 p l e s m args below meth c D cI cZ b E ha H locs ls h2 h3 h4 h5) (fun c1 => kf c1 p l e s m args below meth c D cI cZ b E ha H locs ls h2 h3 h4 h5)
  · exact lv_icmp_lt hx hb hd hz (fun c1 => kt c1 p l e s m args below meth c D cI cZ b E ha H locs ls h2 h3 h4 h5) (fun c1 => kf c1 p l e s m args below meth c D cI cZ b E ha H locs ls h2 h3 h4 h5)
  · exact lv_icmp_ge hx hb hd hz (fun c1 => kt c1 p l e s m args below meth c D cI cZ b E ha H locs ls h2 h3 h4 h5) (fun c1 => kf c1 p l e s m args below meth c D cI cZ b E ha H locs ls h2 h3 h4 h5)
  · exact lv_icmp_gt hx hb hd hz (fun c1 => kt c1 p l e s m args below meth c D cI cZ b E ha H locs ls h2 h3 h4 h5) (fun c1 => kf c1 p l e s m args below meth c D cI cZ b E ha H locs ls h2 h3 h4 h5)
  · exact lv_icmp_le hx hb hd hz (fun c1 => kt c1 p l e s m args below meth c D cI cZ b E ha H locs ls h2 h3 h4 h5) (fun c1 => kf c1 p l e s m args below meth c D cI cZ b E ha H locs ls h2 h3 h4 h5)
theorem dp_if0 (hM : dp_ok M) {op : ClassFile.Cond} {off : Int} {len a b' f : Nat} {v x : Int32} (ht : M.2.2.2.2.2[pc]? = some (some (.ifCond op off, len, a, b', f, v)))
    (kt : dp_cmp op x 0 → dp_W d M al h0 mc ms post k n (a, L, st, h)) (kf : dp_ncmp op x 0 → dp_W d M al h0 mc ms post k n (pc + 3, L, st, h)) : dp_W d M al h0 mc ms post k n (pc, L, .inl x :: st, h) := by
  obtain ⟨hd, hlen, fl, cs, hck, -, -⟩ := dp_X_of hM ht
  dsimp only at hd hlen
  obtain rfl := dp_lenE hlen rfl
  have hz : (pc : Int) + off = (a : Int) := by simpa [dp_ck1] using hck
  intro p l e s m args below meth c D cI cZ b E ha H locs ls h2 h3 h4 h5
  have hx := E.1
  have hb := E.2.1
  cases op
  · exact lv_if_eq hx hb hd hz (fun c1 => kt c1 p l e s m args below meth c D cI cZ b E ha H locs ls h2 h3 h4 h5) (fun c1 => kf c1 p l e s m args below meth c D cI cZ b E ha H locs ls h2 h3 h4 h5)
  · exact lv_if_ne hx hb hd hz (fun c1 => kt c1 p l e s m args below meth c D cI cZ b E ha H locs ls h2 h3 h4 h5) (fun c1 => kf c1 p l e s m args below meth c D cI cZ b E ha H locs ls h2 h3 h4 h5)
  · exact lv_if_lt hx hb hd hz (fun c1 => kt c1 p l e s m args below meth c D cI cZ b E ha H locs ls h2 h3 h4 h5) (fun c1 => kf c1 p l e s m args below meth c D cI cZ b E ha H locs ls h2 h3 h4 h5)
  · exact lv_if_ge hx hb hd hz (fun c1 => kt c1 p l e s m args below meth c D cI cZ b E ha H locs ls h2 h3 h4 h5) (fun c1 => kf c1 p l e s m args below meth c D cI cZ b E ha H locs ls h2 h3 h4 h5)
  · exact lv_if_gt hx hb hd hz (fun c1 => kt c1 p l e s m args below meth c D cI cZ b E ha H locs ls h2 h3 h4 h5) (fun c1 => kf c1 p l e s m args below meth c D cI cZ b E ha H locs ls h2 h3 h4 h5)
  · exact lv_if_le hx hb hd hz (fun c1 => kt c1 p l e s m args below meth c D cI cZ b E ha H locs ls h2 h3 h4 h5) (fun c1 => kf c1 p l e s m args below meth c D cI cZ b E ha H locs ls h2 h3 h4 h5)
theorem dp_swI (hM : dp_ok M) {dflt lo hi : Int} {offs : Array Int} {len a b' f : Nat} {v x : Int32} (ht : M.2.2.2.2.2[pc]? = some (some (.tableswitch dflt lo hi offs, len, a, b', f, v))) {off : Int} {tgt : Nat}
    (hj : ¬ x.toInt < lo ∧ ¬ hi < x.toInt ∧ offs[(x.toInt - lo).toNat]? = some off ∧ (pc : Int) + off = (tgt : Int)) (kk : dp_W d M al h0 mc ms post k n (tgt, L, st, h)) : dp_W d M al h0 mc ms post k n (pc, L, .inl x :: st, h) := by
  have hd := (dp_X_of hM ht).1
  intro p l e s m args below meth c D cI cZ b E ha H locs ls h2 h3 h4 h5
  exact lv_tableIn E.1 E.2.1 hd hj.1 hj.2.1 hj.2.2.1 hj.2.2.2 (kk p l e s m args below meth c D cI cZ b E ha H locs ls h2 h3 h4 h5)
theorem dp_swO (hM : dp_ok M) {dflt lo hi : Int} {offs : Array Int} {len a b' f : Nat} {v x : Int32} (ht : M.2.2.2.2.2[pc]? = some (some (.tableswitch dflt lo hi offs, len, a, b', f, v))) {tgt : Nat}
    (hj : x.toInt < lo ∨ hi < x.toInt) (hz : (pc : Int) + dflt = (tgt : Int)) (kk : dp_W d M al h0 mc ms post k n (tgt, L, st, h)) : dp_W d M al h0 mc ms post k n (pc, L, .inl x :: st, h) := by
  have hd := (dp_X_of hM ht).1
  intro p l e s m args below meth c D cI cZ b E ha H locs ls h2 h3 h4 h5
  exact lv_tableOut E.1 E.2.1 hd hj hz (kk p l e s m args below meth c D cI cZ b E ha H locs ls h2 h3 h4 h5)
theorem dp_out {x : Int32} (N : Nat) (hN : N < 2 ^ 31) (hx : ∀ j, j ≤ N → ¬ x = nI j) : x.toInt < 0 ∨ (N : Int) < x.toInt := by
  rcases Int.lt_or_le x.toInt 0 with q | q
  · exact Or.inl q
  · rcases Int.lt_or_le (N : Int) x.toInt with z | z
    · exact Or.inr z
    · refine absurd ?_ (hx x.toInt.toNat (by omega))
      rw [Int32.toInt_inj.symm, nI_toInt (by omega)]
      omega
theorem dp_idiv (hM : dp_ok M) {len a b' f : Nat} {v x y : Int32} (ht : M.2.2.2.2.2[pc]? = some (some (.idiv, len, a, b', f, v))) (hy : ¬ y = 0)
    (kk : dp_W d M al h0 mc ms post k n (pc + 1, L, .inl (x / y) :: st, h)) : dp_W d M al h0 mc ms post k n (pc, L, .inl y :: .inl x :: st, h) := by
  obtain ⟨hd, hlen, -⟩ := dp_X_of hM ht
  dsimp only at hd hlen
  obtain rfl := dp_lenE hlen rfl
  intro p l e s m args below meth c D cI cZ b E ha H locs ls h2 h3 h4 h5
  exact lv_idiv E.1 E.2.1 hd hy (kk p l e s m args below meth c D cI cZ b E ha H locs ls h2 h3 h4 h5)
theorem dp_irem (hM : dp_ok M) {len a b' f : Nat} {v x y : Int32} (ht : M.2.2.2.2.2[pc]? = some (some (.irem, len, a, b', f, v))) (hy : ¬ y = 0)
    (kk : dp_W d M al h0 mc ms post k n (pc + 1, L, .inl (x - x / y * y) :: st, h)) : dp_W d M al h0 mc ms post k n (pc, L, .inl y :: .inl x :: st, h) := by
  obtain ⟨hd, hlen, -⟩ := dp_X_of hM ht
  dsimp only at hd hlen
  obtain rfl := dp_lenE hlen rfl
  intro p l e s m args below meth c D cI cZ b E ha H locs ls h2 h3 h4 h5
  exact lv_irem E.1 E.2.1 hd hy (kk p l e s m args below meth c D cI cZ b E ha H locs ls h2 h3 h4 h5)
theorem dp_ial (hM : dp_ok M) {len a b' f q N : Nat} {v i : Int32} {g : Nat → Int32} (ht : M.2.2.2.2.2[pc]? = some (some (.iaload, len, a, b', f, v))) (hq : h[q]? = some (.inl (false, N, g))) (hi : vp_in i N)
    (kk : dp_W d M al h0 mc ms post k n (pc + 1, L, .inl (g i.toNatClampNeg) :: st, h)) : dp_W d M al h0 mc ms post k n (pc, L, .inl i :: .inr (some q) :: st, h) := by
  obtain ⟨hd, hlen, -⟩ := dp_X_of hM ht
  dsimp only at hd hlen
  obtain rfl := dp_lenE hlen rfl
  intro p l e s m args below meth c D cI cZ b E ha H locs ls h2 h3 h4 h5
  have he : (dp_ws cI cZ b h)[q]? = some (b + q, .inl (cI, N, .inl g)) := dp_ws_at hq
  exact va_iald E.1 E.2.1 E.2.2.2.2.2.2.2.2.2 h2 q 0 he rfl hi hd (kk p l e s m args below meth c D cI cZ b E ha H locs ls h2 h3 h4 h5)
theorem dp_bal (hM : dp_ok M) {len a b' f q N : Nat} {v i : Int32} {g : Nat → Int32} (ht : M.2.2.2.2.2[pc]? = some (some (.baload, len, a, b', f, v))) (hq : h[q]? = some (.inl (true, N, g))) (hi : vp_in i N)
    (kk : dp_W d M al h0 mc ms post k n (pc + 1, L, .inl (g i.toNatClampNeg) :: st, h)) : dp_W d M al h0 mc ms post k n (pc, L, .inl i :: .inr (some q) :: st, h) := by
  obtain ⟨hd, hlen, -⟩ := dp_X_of hM ht
  dsimp only at hd hlen
  obtain rfl := dp_lenE hlen rfl
  intro p l e s m args below meth c D cI cZ b E ha H locs ls h2 h3 h4 h5
  have he : (dp_ws cI cZ b h)[q]? = some (b + q, .inl (cZ, N, .inl g)) := dp_ws_at hq
  exact va_zald E.1 E.2.1 E.2.2.2.2.2.2.2.2.2 h2 q 1 he rfl hi hd (kk p l e s m args below meth c D cI cZ b E ha H locs ls h2 h3 h4 h5)
theorem dp_ias (hM : dp_ok M) {len a b' f q N : Nat} {v i x : Int32} {g : Nat → Int32} (ht : M.2.2.2.2.2[pc]? = some (some (.iastore, len, a, b', f, v))) (hq : h[q]? = some (.inl (false, N, g))) (hi : vp_in i N)
    (kk : dp_W d M al h0 mc ms post k n (pc + 1, L, st, h.set q (.inl (false, N, upd g i.toNatClampNeg x)))) : dp_W d M al h0 mc ms post k n (pc, L, .inl x :: .inl i :: .inr (some q) :: st, h) := by
  obtain ⟨hd, hlen, -⟩ := dp_X_of hM ht
  dsimp only at hd hlen
  obtain rfl := dp_lenE hlen rfl
  intro p l e s m args below meth c D cI cZ b E ha H locs ls h2 h3 h4 h5
  have he : (dp_ws cI cZ b h)[q]? = some (b + q, .inl (cI, N, .inl g)) := dp_ws_at hq
  have hw : (dp_ws cI cZ b h).set q (b + q, .inl (cI, N, .inl (upd g i.toNatClampNeg x))) = dp_ws cI cZ b (h.set q (.inl (false, N, upd g i.toNatClampNeg x))) := dp_ws_set q (.inl (false, N, upd g i.toNatClampNeg x))
  refine va_iast E.1 E.2.1 E.2.2.2.2.2.2.2.2.2 h2 h3 h4 q 0 he rfl hi hd (fun H1 locs1 g1 g2 g3 => ?_)
  rw [hw] at g1 g2
  exact kk p l e s m args below meth c D cI cZ b E ha H1 locs1 ls g1 g2 g3 h5
theorem dp_bas (hM : dp_ok M) {len a b' f q N : Nat} {v i x : Int32} {g : Nat → Int32} (ht : M.2.2.2.2.2[pc]? = some (some (.bastore, len, a, b', f, v))) (hq : h[q]? = some (.inl (true, N, g))) (hi : vp_in i N)
    (kk : dp_W d M al h0 mc ms post k n (pc + 1, L, st, h.set q (.inl (true, N, upd g i.toNatClampNeg (x &&& 1))))) : dp_W d M al h0 mc ms post k n (pc, L, .inl x :: .inl i :: .inr (some q) :: st, h) := by
  obtain ⟨hd, hlen, -⟩ := dp_X_of hM ht
  dsimp only at hd hlen
  obtain rfl := dp_lenE hlen rfl
  intro p l e s m args below meth c D cI cZ b E ha H locs ls h2 h3 h4 h5
  have he : (dp_ws cI cZ b h)[q]? = some (b + q, .inl (cZ, N, .inl g)) := dp_ws_at hq
  have hw : (dp_ws cI cZ b h).set q (b + q, .inl (cZ, N, .inl (upd g i.toNatClampNeg (vp_nar .boolean x)))) = dp_ws cI cZ b (h.set q (.inl (true, N, upd g i.toNatClampNeg (x &&& 1)))) := dp_ws_set q (.inl (true, N, upd g i.toNatClampNeg (x &&& 1)))
  refine va_zast E.1 E.2.1 E.2.2.2.2.2.2.2.2.2 h2 h3 h4 q 1 he rfl hi hd (fun H1 locs1 g1 g2 g3 => ?_)
  rw [hw] at g1 g2
  exact kk p l e s m args below meth c D cI cZ b E ha H1 locs1 ls g1 g2 g3 h5
theorem dp_aln (hM : dp_ok M) {len a b' f q N : Nat} {v : Int32} {g : Nat → Int32} (ht : M.2.2.2.2.2[pc]? = some (some (.arraylength, len, a, b', f, v))) (hq : h[q]? = some (.inl (false, N, g)))
    (kk : dp_W d M al h0 mc ms post k n (pc + 1, L, .inl (Int32.ofNat N) :: st, h)) : dp_W d M al h0 mc ms post k n (pc, L, .inr (some q) :: st, h) := by
  obtain ⟨hd, hlen, -⟩ := dp_X_of hM ht
  dsimp only at hd hlen
  obtain rfl := dp_lenE hlen rfl
  intro p l e s m args below meth c D cI cZ b E ha H locs ls h2 h3 h4 h5
  have he : (dp_ws cI cZ b h)[q]? = some (b + q, .inl (cI, N, .inl g)) := dp_ws_at hq
  exact va_alen E.1 E.2.1 E.2.2.2.2.2.2.2.2.2 h2 q 0 he rfl rfl hd (kk p l e s m args below meth c D cI cZ b E ha H locs ls h2 h3 h4 h5)
theorem dp_iret (hM : dp_ok M) {len a b' f : Nat} {v x : Int32} (ht : M.2.2.2.2.2[pc]? = some (some (.ireturn, len, a, b', f, v))) (hr : M.2.2.2.2.1 = some .int) (hp : post (some (.inl x)) h) : dp_W d M al h0 mc ms post mc ms (pc, L, [.inl x], h) := by
  obtain ⟨hd, hlen, -⟩ := dp_X_of hM ht
  dsimp only at hd hlen
  obtain rfl := dp_lenE hlen rfl
  intro p l e s m args below meth c D cI cZ b E ha H locs ls h2 h3 h4 h5
  obtain ⟨hx, hb, -, hrt, hlk, -⟩ := E
  exact W.iret hx hb (hrt.trans hr) (fun t ht hW => ⟨⟨some (.inl x), h, rfl, hp, by rw [ht]; exact h2, h3⟩, h4.F ht⟩) h4.2.2 hd hlk
theorem dp_zret (hM : dp_ok M) {len a b' f : Nat} {v x : Int32} (ht : M.2.2.2.2.2[pc]? = some (some (.ireturn, len, a, b', f, v))) (hr : M.2.2.2.2.1 = some .boolean) (hz : x &&& 1 = x) (hp : post (some (.inl x)) h) : dp_W d M al h0 mc ms post mc ms (pc, L, [.inl x], h) := by
  obtain ⟨hd, hlen, -⟩ := dp_X_of hM ht
  dsimp only at hd hlen
  obtain rfl := dp_lenE hlen rfl
  intro p l e s m args below meth c D cI cZ b E ha H locs ls h2 h3 h4 h5
  obtain ⟨hx, hb, -, hrt, hlk, -⟩ := E
  exact W.zret hx hb (hrt.trans hr) (by show Value.int (x &&& 1) = _; rw [hz]) (fun t ht hW => ⟨⟨some (.inl x), h, rfl, hp, by rw [ht]; exact h2, h3⟩, h4.F ht⟩) h4.2.2 hd hlk
theorem dp_vret (hM : dp_ok M) {len a b' f : Nat} {v : Int32} (ht : M.2.2.2.2.2[pc]? = some (some (.return_, len, a, b', f, v))) (hr : M.2.2.2.2.1 = none) (hp : post none h) : dp_W d M al h0 mc ms post mc ms (pc, L, [], h) := by
  obtain ⟨hd, hlen, -⟩ := dp_X_of hM ht
  dsimp only at hd hlen
  obtain rfl := dp_lenE hlen rfl
  intro p l e s m args below meth c D cI cZ b E ha H locs ls h2 h3 h4 h5
  obtain ⟨hx, hb, -, hrt, hlk, -⟩ := E
  exact W.vret hx hb (hrt.trans hr) (fun t ht hW => ⟨⟨none, h, rfl, hp, by rw [ht]; exact h2, h3⟩, h4.F ht⟩) h4.2.2 hd hlk
end DR
