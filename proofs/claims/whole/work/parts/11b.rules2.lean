/-! ===== 11b: writes, with the heap behind them under its own name ===== -/
section DN
variable {d : Nat} {M : dp_M} {al : Bool} {h0 : dp_H} {mc ms : Nat} {post : Option dp_V → dp_H → Prop} {k n : Nat} {pc : Nat} {L : List (Option dp_V)} {st r : List dp_V} {h h' : dp_H} {idx : Nat}
theorem dp_pfe (hM : dp_ok M) {len ci kf f q : Nat} {v x : Int32} {fs : List dp_V} (ht : M.2.2.2.2.2[pc]? = some (some (.putfield idx, len, ci, kf, f, v))) (hf : f ≠ 4) (hq : h[q]? = some (.inr (ci, fs))) (hk : kf < fs.length) (hh : h.set q (.inr (ci, fs.set kf (.inl x))) = h')
    (kk : dp_W d M al h0 mc ms post k n (pc + 3, L, st, h')) : dp_W d M al h0 mc ms post k n (pc, L, .inl x :: .inr (some q) :: st, h) := by
  subst hh
  have e1 : dp_st M (pc, L, .inl x :: .inr (some q) :: st, h) = some (pc + 3, L, st, h.set q (.inr (ci, fs.set kf (.inl x)))) := by
    unfold dp_st
    dsimp only
    rw [ht]
    dsimp only
    unfold dp_op
    dsimp only
    rw [if_neg hf]
    unfold dp_pf
    dsimp only
    rw [hq]
    dsimp only
    rw [if_pos rfl, List.getElem?_eq_getElem hk]
  refine dp_blk hM 1 (S' := (pc + 3, L, st, h.set q (.inr (ci, fs.set kf (.inl x))))) ?_ kk
  unfold dp_sts
  rw [e1]
  rfl
theorem dp_iase (hM : dp_ok M) {len a b' f q N : Nat} {v i x : Int32} {g : Nat → Int32} (ht : M.2.2.2.2.2[pc]? = some (some (.iastore, len, a, b', f, v))) (hq : h[q]? = some (.inl (false, N, g))) (hi : vp_in i N) (hh : h.set q (.inl (false, N, upd g i.toNatClampNeg x)) = h')
    (kk : dp_W d M al h0 mc ms post k n (pc + 1, L, st, h')) : dp_W d M al h0 mc ms post k n (pc, L, .inl x :: .inl i :: .inr (some q) :: st, h) := by
  subst hh
  exact dp_ias hM ht hq hi kk
theorem dp_base (hM : dp_ok M) {len a b' f q N : Nat} {v i x : Int32} {g : Nat → Int32} (ht : M.2.2.2.2.2[pc]? = some (some (.bastore, len, a, b', f, v))) (hq : h[q]? = some (.inl (true, N, g))) (hi : vp_in i N) (hh : h.set q (.inl (true, N, upd g i.toNatClampNeg (x &&& 1))) = h')
    (kk : dp_W d M al h0 mc ms post k n (pc + 1, L, st, h')) : dp_W d M al h0 mc ms post k n (pc, L, .inl x :: .inl i :: .inr (some q) :: st, h) := by
  subst hh
  exact dp_bas hM ht hq hi kk
theorem dp_acopye (hM : dp_ok M) {len a b' f : Nat} {v : Int32} (ht : M.2.2.2.2.2[pc]? = some (some (.invokestatic idx, len, a, b', f, v))) (h1 : Cond.methodLink M.1 idx arraycopyName ∈ dp_g) (h2 : Cond.native arraycopyName ∈ dp_g) (h3 : Cond.static arraycopyName ∈ dp_g) (h4 : Cond.initialized "java/lang/System" ∈ dp_g)
    {q0 q1 n0 n1 : Nat} {g0 g1 : Nat → Int32} (hq0 : h[q0]? = some (.inl (false, n0, g0))) (hq1 : h[q1]? = some (.inl (false, n1, g1))) {sp dp nn : Int32} (hc : (¬ sp < 0 ∧ ¬ dp < 0 ∧ ¬ nn < 0) ∧ sp.toNatClampNeg + nn.toNatClampNeg ≤ n0 ∧ dp.toNatClampNeg + nn.toNatClampNeg ≤ n1) (hd : 1 ≤ d) (hr : r.length ≤ 8)
    (hh : h.set q1 (.inl (false, n1, va_cpy g0 g1 sp.toNatClampNeg dp.toNatClampNeg nn.toNatClampNeg)) = h')
    (kk : dp_W d M al h0 mc ms post k n (pc + 3, L, r, h')) : dp_W d M al h0 mc ms post k n (pc, L, .inl nn :: .inl dp :: .inr (some q1) :: .inl sp :: .inr (some q0) :: r, h) := by
  subst hh
  exact dp_acopy hM ht h1 h2 h3 h4 hq0 hq1 hc hd hr kk
end DN
