/-! ===== 04: a step of the deep machine is a step of the machine ===== -/
theorem dp_bin_inv {f : Int32 → Int32 → Int32} {pc : Nat} {L : List (Option dp_V)} {st : List dp_V} {h : dp_H} {S' : dp_S} (hh : dp_bin f (pc, L, st, h) = some S') : ∃ x y r, st = .inl y :: .inl x :: r ∧ S' = (pc + 1, L, .inl (f x y) :: r, h) := by
  unfold dp_bin at hh
  split at hh
  · rename_i e
    cases e
    exact ⟨_, _, _, rfl, (Option.some.inj hh).symm⟩
  · cases hh
theorem dp_ild_inv {n k pc : Nat} {L : List (Option dp_V)} {st : List dp_V} {h : dp_H} {S' : dp_S} (hh : dp_ild n k (pc, L, st, h) = some S') : ∃ x, L[k]? = some (some (.inl x)) ∧ S' = (pc + n, L, .inl x :: st, h) := by
  unfold dp_ild at hh
  dsimp only at hh
  split at hh
  · rename_i x e
    exact ⟨x, e, (Option.some.inj hh).symm⟩
  · cases hh
theorem dp_ald_inv {n k pc : Nat} {L : List (Option dp_V)} {st : List dp_V} {h : dp_H} {S' : dp_S} (hh : dp_ald n k (pc, L, st, h) = some S') : ∃ q, L[k]? = some (some (.inr (some q))) ∧ S' = (pc + n, L, .inr (some q) :: st, h) := by
  unfold dp_ald at hh
  dsimp only at hh
  split at hh
  · rename_i x e
    exact ⟨x, e, (Option.some.inj hh).symm⟩
  · cases hh
theorem dp_ist_inv {n k pc : Nat} {L : List (Option dp_V)} {st : List dp_V} {h : dp_H} {S' : dp_S} (hh : dp_ist n k (pc, L, st, h) = some S') : ∃ x r, st = .inl x :: r ∧ k < L.length ∧ S' = (pc + n, L.set k (some (.inl x)), r, h) := by
  unfold dp_ist at hh
  split at hh
  · rename_i e
    cases e
    split at hh
    · rename_i y e
      exact ⟨_, _, rfl, (List.getElem?_eq_some_iff.mp e).1, (Option.some.inj hh).symm⟩
    · cases hh
  · cases hh
theorem dp_inc_inv {k pc : Nat} {v : Int32} {L : List (Option dp_V)} {st : List dp_V} {h : dp_H} {S' : dp_S} (hh : dp_inc k v (pc, L, st, h) = some S') : ∃ x, L[k]? = some (some (.inl x)) ∧ S' = (pc + 3, L.set k (some (.inl (x + v))), st, h) := by
  unfold dp_inc at hh
  dsimp only at hh
  split at hh
  · rename_i x e
    exact ⟨x, e, (Option.some.inj hh).symm⟩
  · cases hh
theorem dp_gf_inv {ci k pc : Nat} {L : List (Option dp_V)} {st : List dp_V} {h : dp_H} {S' : dp_S} (hh : dp_gf ci k (pc, L, st, h) = some S') : ∃ q r fs v, st = .inr (some q) :: r ∧ h[q]? = some (.inr (ci, fs)) ∧ fs[k]? = some v ∧ S' = (pc + 3, L, v :: r, h) := by
  unfold dp_gf at hh
  split at hh
  · rename_i e
    cases e
    split at hh
    · rename_i e1
      split at hh
      · rename_i e2
        subst e2
        split at hh
        · rename_i v e3
          exact ⟨_, _, _, v, rfl, e1, e3, (Option.some.inj hh).symm⟩
        · cases hh
      · cases hh
    · cases hh
  · cases hh
theorem dp_pf_inv {ci k pc : Nat} {L : List (Option dp_V)} {st : List dp_V} {h : dp_H} {S' : dp_S} (hh : dp_pf ci k (pc, L, st, h) = some S') : ∃ x q r fs, st = .inl x :: .inr (some q) :: r ∧ h[q]? = some (.inr (ci, fs)) ∧ k < fs.length ∧ S' = (pc + 3, L, r, h.set q (.inr (ci, fs.set k (.inl x)))) := by
  unfold dp_pf at hh
  split at hh
  · rename_i e
    cases e
    split at hh
    · rename_i e1
      split at hh
      · rename_i e2
        subst e2
        split at hh
        · rename_i v e3
          exact ⟨_, _, _, _, rfl, e1, (List.getElem?_eq_some_iff.mp e3).1, (Option.some.inj hh).symm⟩
        · cases hh
      · cases hh
    · cases hh
  · cases hh
theorem dp_pr_inv {ci k pc : Nat} {L : List (Option dp_V)} {st : List dp_V} {h : dp_H} {S' : dp_S} (hh : dp_pr ci k (pc, L, st, h) = some S') : ∃ x q r fs, st = .inr (some x) :: .inr (some q) :: r ∧ h[q]? = some (.inr (ci, fs)) ∧ k < fs.length ∧ S' = (pc + 3, L, r, h.set q (.inr (ci, fs.set k (.inr (some x))))) := by
  unfold dp_pr at hh
  split at hh
  · rename_i e
    cases e
    split at hh
    · rename_i e1
      split at hh
      · rename_i e2
        subst e2
        split at hh
        · rename_i v e3
          exact ⟨_, _, _, _, rfl, e1, (List.getElem?_eq_some_iff.mp e3).1, (Option.some.inj hh).symm⟩
        · cases hh
      · cases hh
    · cases hh
  · cases hh
section DG
variable {M : dp_M} {p : Program} {l : Launch} {e : Env} {R : Room} {s : State} {m : MethodId} {args : Array Value} {below : List Frame} {meth : Method} {c : Code} {D : va_G} {cI cZ : ClassId} {b : Nat} {A : Nat → Prop} {Q : State → Prop} {k n : Nat}
theorem dp_gf_G (E : dp_E M p s m args meth c D cI cZ) {x : Nat × Nat × Nat × Nat} (hF : dp_FL M.1 x) (hf : x.2.2.2 < 2) {pc : Nat} (hd : decode M.2.2.1 pc = .ok (.getfield x.1, 3)) {L : List (Option dp_V)} {st : List dp_V} {h : dp_H} {S' : dp_S} (hh : dp_gf x.2.1 x.2.2.1 (pc, L, st, h) = some S')
    (kk : dp_G p l e R s m args below meth c D cI cZ b A M.2.2.2.1 Q k n S') : dp_G p l e R s m args below meth c D cI cZ b A M.2.2.2.1 Q k n (pc, L, st, h) := by
  obtain ⟨hx, hb, -, -, -, -, hown, hts, hnw, hK⟩ := E
  obtain ⟨⟨C, T, N⟩, hc, hk, ⟨hin, -, -⟩, hl⟩ := hF
  obtain ⟨q, r, fs, v, rfl, e1, e2, rfl⟩ := dp_gf_inv hh
  obtain ⟨idx, ci, kf, f⟩ := x
  dsimp only at hc hk hf hl hd e1 e2 kk hin
  intro H locs ls h2 h3 h4 h5
  have he : (dp_ws cI cZ b h)[q]? = some (b + q, .inr (ci, fs.map (dp_cv b))) := dp_ws_at e1
  have hv : (fs.map (dp_cv b))[kf]? = some (dp_cv b v) := by rw [List.getElem?_map, e2]; rfl
  match f, hf, hl with
  | 0, _, hl => exact va_get (C := C) (T := T) (N := N) hx hb hts hin hown hK h2 q he hc kf hk (hts _ hl) (fun _ z => z) hv hd (kk H locs ls h2 h3 h4 h5)
  | 1, _, hl =>
    obtain ⟨host, hl⟩ := hl
    exact va_getN (C := C) (T := T) (N := N) hx hb hts hin hown hK h2 q he hc kf hk (dp_nw_use hl (hnw _ hl)) (fun _ z => z) hv hd (kk H locs ls h2 h3 h4 h5)
theorem dp_pf_G (E : dp_E M p s m args meth c D cI cZ) {x : Nat × Nat × Nat × Nat} (hF : dp_FL M.1 x) (hf : 2 ≤ x.2.2.2) (hf2 : x.2.2.2 < 4) {pc : Nat} (hd : decode M.2.2.1 pc = .ok (.putfield x.1, 3)) {L : List (Option dp_V)} {st : List dp_V} {h : dp_H} {S' : dp_S} (hh : dp_pf x.2.1 x.2.2.1 (pc, L, st, h) = some S')
    (kk : dp_G p l e R s m args below meth c D cI cZ b A M.2.2.2.1 Q k n S') : dp_G p l e R s m args below meth c D cI cZ b A M.2.2.2.1 Q k n (pc, L, st, h) := by
  obtain ⟨hx, hb, -, -, -, -, hown, hts, hnw, hK⟩ := E
  obtain ⟨⟨C, T, N⟩, hc, hk, ⟨hin, ⟨ty0, hty⟩, hnm⟩, hl⟩ := hF
  obtain ⟨y, q, r, fs, rfl, e1, e2, rfl⟩ := dp_pf_inv hh
  obtain ⟨idx, ci, kf, f⟩ := x
  dsimp only at hc hk hf hf2 hl hd e1 e2 kk hin hty hnm
  intro H locs ls h2 h3 h4 h5
  have he : (dp_ws cI cZ b h)[q]? = some (b + q, .inr (ci, fs.map (dp_cv b))) := dp_ws_at e1
  have hlen : kf < (fs.map (dp_cv b)).length := by rw [List.length_map]; exact e2
  have hw : (dp_ws cI cZ b h).set q (b + q, .inr (ci, (fs.map (dp_cv b)).set kf (.int y))) = dp_ws cI cZ b (h.set q (.inr (ci, fs.set kf (.inl y)))) := by
    rw [← dp_ws_set]
    simp only [dp_ce, List.map_set, dp_cv]
  have k2 : ∀ (H1 : Heap) (locs1 : List Loc), va_P D vwCl ((dp_ws cI cZ b h).set q (b + q, .inr (ci, (fs.map (dp_cv b)).set kf (.int y)))) H1 → va_D A ((dp_ws cI cZ b h).set q (b + q, .inr (ci, (fs.map (dp_cv b)).set kf (.int y)))) → va_S A s.heap H1 locs1 → W p l e R s m args below meth c H1 locs1 k n Q (F0 m (pc + 3) ls (r.map (dp_cv b))) := by
    intro H1 locs1 g1 g2 g3
    rw [hw] at g1 g2
    exact kk H1 locs1 ls g1 g2 g3 h5
  match f, hf, hf2, hl with
  | 2, _, _, hl =>
    obtain ⟨hl, hfin, hd1⟩ := hl
    exact va_put (C := C) (T := T) (N := N) hx hb hts hin ty0 hty hnm hown hK h2 h3 h4 q he hc kf hk (hts _ hl) (fun _ z => z) hfin hd1 (v := .int y) rfl rfl hlen hd k2
  | 3, _, _, hl =>
    obtain ⟨⟨host, hl⟩, hfin, hd1⟩ := hl
    exact va_putN (C := C) (T := T) (N := N) hx hb hts hin ty0 hty hnm hown hK h2 h3 h4 q he hc kf hk (dp_nw_use hl (hnw _ hl)) (fun _ z => z) hfin hd1 (v := .int y) rfl rfl hlen hd k2
theorem dp_pr_G (E : dp_E M p s m args meth c D cI cZ) (hin2 : M.2.1.name = "<init>") {idx ci kf : Nat} (hF : dp_FL M.1 (idx, ci, kf, 4)) {pc : Nat} (hd : decode M.2.2.1 pc = .ok (.putfield idx, 3)) {L : List (Option dp_V)} {st : List dp_V} {h : dp_H} {S' : dp_S} (hh : dp_pr ci kf (pc, L, st, h) = some S')
    (kk : dp_G p l e R s m args below meth c D cI cZ b A M.2.2.2.1 Q k n S') : dp_G p l e R s m args below meth c D cI cZ b A M.2.2.2.1 Q k n (pc, L, st, h) := by
  obtain ⟨hx, hb, -, -, -, hnam, hown, hts, hnw, hK⟩ := E
  obtain ⟨⟨C, T, N⟩, hc, hk, ⟨hin, ⟨ty0, hty⟩, hnm⟩, hl⟩ := hF
  obtain ⟨y, q, r, fs, rfl, e1, e2, rfl⟩ := dp_pr_inv hh
  dsimp only at hc hk hl hin hty hnm
  intro H locs ls h2 h3 h4 h5
  have he : (dp_ws cI cZ b h)[q]? = some (b + q, .inr (ci, fs.map (dp_cv b))) := dp_ws_at e1
  have hlen : kf < (fs.map (dp_cv b)).length := by rw [List.length_map]; exact e2
  have hw : (dp_ws cI cZ b h).set q (b + q, .inr (ci, (fs.map (dp_cv b)).set kf (.ref (b + y)))) = dp_ws cI cZ b (h.set q (.inr (ci, fs.set kf (.inr (some y))))) := by
    rw [← dp_ws_set]
    simp only [dp_ce, List.map_set, dp_cv]
  obtain ⟨hl, hfin, hdecl, ty, hd1, hrf⟩ := hl
  refine va_putF (C := C) (T := T) (N := N) hx hb hts hin ty0 hty hnm hown hK h2 h3 h4 q he hc kf hk (hts _ hl) (fun _ z => z) hfin (hnam.trans hin2) hdecl hd1 (v := .ref (b + y)) (hrf _).1 (hrf _).2 hlen hd ?_
  intro H1 locs1 g1 g2 g3
  rw [hw] at g1 g2
  exact kk H1 locs1 ls g1 g2 g3 h5
end DG
/-- the table's entries of one method, with what the program tested of them -/
def dp_X (M : dp_M) (pc : Nat) (x : dp_In) : Prop := decode M.2.2.1 pc = .ok (x.1, x.2.1) ∧ (dp_len x.1 = 0 ∨ x.2.1 = dp_len x.1) ∧ ∃ fl cs, dp_ck1 fl cs pc x = true ∧ (∀ x ∈ fl, dp_FL M.1 x ∧ (x.2.2.2 = 4 → M.2.1.name = "<init>")) ∧ ∀ x ∈ cs, Cond.constant M.1 x.1 x.2 ∈ dp_g
theorem dp_X_of {M : dp_M} (hM : dp_ok M) {pc : Nat} {x : dp_In} (h : M.2.2.2.2.2[pc]? = some (some x)) : dp_X M pc x := by
  obtain ⟨⟨fl, cs, hck, hfl, hcs⟩, -⟩ := hM
  have h1 := dp_ck_at _ 0 hck pc x h
  rw [Nat.zero_add] at h1
  exact ⟨h1.1, h1.2.2, fl, cs, h1.2.1, hfl, hcs⟩
theorem dp_lenE {i : Instr} {n k : Nat} (h : dp_len i = 0 ∨ n = dp_len i) (hk : dp_len i = k + 1) : n = k + 1 := by omega
section DS
variable {M : dp_M} {p : Program} {l : Launch} {e : Env} {R : Room} {s : State} {m : MethodId} {args : Array Value} {below : List Frame} {meth : Method} {c : Code} {D : va_G} {cI cZ : ClassId} {b : Nat} {A : Nat → Prop} {Q : State → Prop} {k n : Nat}
set_option maxHeartbeats 4000000 in
theorem dp_st_G (hM : dp_ok M) (E : dp_E M p s m args meth c D cI cZ) {S S' : dp_S} (h : dp_st M S = some S')
    (kk : dp_G p l e R s m args below meth c D cI cZ b A M.2.2.2.1 Q k n S') : dp_G p l e R s m args below meth c D cI cZ b A M.2.2.2.1 Q k n S := by
  obtain ⟨pc, L, st, hp⟩ := S
  unfold dp_st at h
  dsimp only at h
  split at h
  · rename_i i len a b' f v he
    obtain ⟨hd, hlen, fl, cs, hck, hfl, hcs⟩ := dp_X_of hM he
    dsimp only at hd hlen
    have E0 := E
    obtain ⟨hx, hb, hml, -, -, hnam, hown, hts, hnw, hK⟩ := E0
    unfold dp_op at h
    split at h
    · obtain rfl := dp_lenE hlen rfl
      obtain ⟨x, e1, rfl⟩ := dp_ild_inv h
      intro H locs ls h2 h3 h4 h5
      exact lv_iload hx hb hd (h5.at e1) (kk H locs ls h2 h3 h4 h5)
    · obtain rfl := dp_lenE hlen rfl
      obtain ⟨x, e1, rfl⟩ := dp_ild_inv h
      intro H locs ls h2 h3 h4 h5
      exact lv_iload_n hx hb hd rfl (h5.at e1) (kk H locs ls h2 h3 h4 h5)
    · obtain rfl := dp_lenE hlen rfl
      obtain ⟨x, e1, rfl⟩ := dp_ald_inv h
      intro H locs ls h2 h3 h4 h5
      exact lv_aload_n hx hb hd rfl (h5.at e1) (kk H locs ls h2 h3 h4 h5)
    · obtain rfl := dp_lenE hlen rfl
      rename_i nn
      have hv : Int32.ofInt nn = v := by simpa [dp_ck1] using hck
      cases h
      intro H locs ls h2 h3 h4 h5
      exact lv_iconst hx hb hd hv (kk H locs ls h2 h3 h4 h5)
    · obtain rfl := dp_lenE hlen rfl
      rename_i nn
      have hv : (Int8.ofInt nn).toInt32 = v := by simpa [dp_ck1] using hck
      cases h
      intro H locs ls h2 h3 h4 h5
      exact lv_bipush hx hb hd hv (kk H locs ls h2 h3 h4 h5)
    · obtain rfl := dp_lenE hlen rfl
      rename_i nn
      have hv : (nn, v) ∈ cs := by simpa [dp_ck1] using hck
      cases h
      intro H locs ls h2 h3 h4 h5
      exact lv_ldcw hx hb hown (hts _ (hcs _ hv)) hd (kk H locs ls h2 h3 h4 h5)
    · obtain rfl := dp_lenE hlen rfl
      obtain ⟨x, r, rfl, e1, rfl⟩ := dp_ist_inv h
      intro H locs ls h2 h3 h4 h5
      exact lv_istore hx hb hd h5.1 (by rw [← h5.2]; exact e1) rfl (fun ls' h' => kk H locs ls' h2 h3 h4 (h5.set (v := .inl x) h'))
    · obtain rfl := dp_lenE hlen rfl
      obtain ⟨x, r, rfl, e1, rfl⟩ := dp_ist_inv h
      intro H locs ls h2 h3 h4 h5
      exact lv_istore_n hx hb hd rfl h5.1 (by rw [← h5.2]; exact e1) rfl (fun ls' h' => kk H locs ls' h2 h3 h4 (h5.set (v := .inl x) h'))
    · obtain rfl := dp_lenE hlen rfl
      rename_i kx nn
      have hv : Int32.ofInt nn = v := by simpa [dp_ck1] using hck
      obtain ⟨x, e1, rfl⟩ := dp_inc_inv h
      intro H locs ls h2 h3 h4 h5
      obtain ⟨q, hq⟩ := List.getElem?_of_mem (dp_lv_mem.mpr ⟨kx, _, e1, rfl⟩ : (kx, dp_cv b (.inl x)) ∈ dp_lv b L)
      exact lv_iinc (v := x + v) hx hb hd h5.1 hq (by rw [hv]) (by rw [← h5.2]; exact (List.getElem?_eq_some_iff.mp e1).1) rfl (fun ls' h' => kk H locs ls' h2 h3 h4 (h5.set (v := .inl (x + v)) h'))
    · obtain rfl := dp_lenE hlen rfl
      obtain ⟨x, y, r, rfl, rfl⟩ := dp_bin_inv h
      exact fun H locs ls h2 h3 h4 h5 => lv_iadd hx hb hd (kk H locs ls h2 h3 h4 h5)
    · obtain rfl := dp_lenE hlen rfl
      obtain ⟨x, y, r, rfl, rfl⟩ := dp_bin_inv h
      exact fun H locs ls h2 h3 h4 h5 => lv_isub hx hb hd (kk H locs ls h2 h3 h4 h5)
    · obtain rfl := dp_lenE hlen rfl
      obtain ⟨x, y, r, rfl, rfl⟩ := dp_bin_inv h
      exact fun H locs ls h2 h3 h4 h5 => lv_imul hx hb hd (kk H locs ls h2 h3 h4 h5)
    · obtain rfl := dp_lenE hlen rfl
      obtain ⟨x, y, r, rfl, rfl⟩ := dp_bin_inv h
      exact fun H locs ls h2 h3 h4 h5 => lv_iand hx hb hd (kk H locs ls h2 h3 h4 h5)
    · obtain rfl := dp_lenE hlen rfl
      obtain ⟨x, y, r, rfl, rfl⟩ := dp_bin_inv h
      exact fun H locs ls h2 h3 h4 h5 => lv_ior hx hb hd (kk H locs ls h2 h3 h4 h5)
    · obtain rfl := dp_lenE hlen rfl
      obtain ⟨x, y, r, rfl, rfl⟩ := dp_bin_inv h
      exact fun H locs ls h2 h3 h4 h5 => lv_ixor hx hb hd (kk H locs ls h2 h3 h4 h5)
    · obtain rfl := dp_lenE hlen rfl
      obtain ⟨x, y, r, rfl, rfl⟩ := dp_bin_inv h
      exact fun H locs ls h2 h3 h4 h5 => lv_ishl hx hb hd (kk H locs ls h2 h3 h4 h5)
    · obtain rfl := dp_lenE hlen rfl
      obtain ⟨x, y, r, rfl, rfl⟩ := dp_bin_inv h
      exact fun H locs ls h2 h3 h4 h5 => lv_ishr hx hb hd (kk H locs ls h2 h3 h4 h5)
    · obtain rfl := dp_lenE hlen rfl
      obtain ⟨x, y, r, rfl, rfl⟩ := dp_bin_inv h
      exact fun H locs ls h2 h3 h4 h5 => lv_iushr hx hb hd rfl (kk H locs ls h2 h3 h4 h5)
    · obtain rfl := dp_lenE hlen rfl
      unfold dp_neg at h
      split at h
      · rename_i e0
        cases e0
        cases h
        exact fun H locs ls h2 h3 h4 h5 => lv_ineg hx hb hd (kk H locs ls h2 h3 h4 h5)
      · cases h
    · obtain rfl := dp_lenE hlen rfl
      unfold dp_dup at h
      split at h
      · rename_i e0
        cases e0
        cases h
        exact fun H locs ls h2 h3 h4 h5 => lv_dup hx hb hd (dp_cat _ _) (kk H locs ls h2 h3 h4 h5)
      · cases h
    · obtain rfl := dp_lenE hlen rfl
      unfold dp_dup2 at h
      split at h
      · rename_i e0
        cases e0
        cases h
        exact fun H locs ls h2 h3 h4 h5 => lv_dup2_11 hx hb hd (dp_cat _ _) (dp_cat _ _) (kk H locs ls h2 h3 h4 h5)
      · cases h
    · obtain rfl := dp_lenE hlen rfl
      rename_i nn
      have ht : (pc : Int) + nn = (a : Int) := by simpa [dp_ck1] using hck
      cases h
      exact fun H locs ls h2 h3 h4 h5 => lv_goto hx hb hd ht (kk H locs ls h2 h3 h4 h5)
    · obtain rfl := dp_lenE hlen rfl
      rename_i nn
      have hv : f < 2 ∧ (nn, a, b', f) ∈ fl := by simpa [dp_ck1] using hck
      exact dp_gf_G (x := (nn, a, b', f)) E (hfl _ hv.2).1 hv.1 hd h kk
    · obtain rfl := dp_lenE hlen rfl
      rename_i nn
      have hv : (2 ≤ f ∧ f ≤ 4) ∧ (nn, a, b', f) ∈ fl := by simpa [dp_ck1] using hck
      split at h
      · rename_i e4
        subst e4
        exact dp_pr_G E ((hfl _ hv.2).2 rfl) (hfl _ hv.2).1 hd h kk
      · rename_i e4
        exact dp_pf_G (x := (nn, a, b', f)) E (hfl _ hv.2).1 hv.1.1 (by show f < 4; omega) hd h kk
    · cases h
  · cases h
theorem dp_sts_G (hM : dp_ok M) (E : dp_E M p s m args meth c D cI cZ) : ∀ (j : Nat) {S S' : dp_S} (_ : dp_sts M j S = some S')
    (_ : dp_G p l e R s m args below meth c D cI cZ b A M.2.2.2.1 Q k n S'), dp_G p l e R s m args below meth c D cI cZ b A M.2.2.2.1 Q k n S
  | 0, S, S', h, kk => by cases h; exact kk
  | j + 1, S, S', h, kk => by
    unfold dp_sts at h
    split at h
    · rename_i S1 e1
      exact dp_st_G hM E e1 (dp_sts_G hM E j h kk)
    · cases h
end DS
