/-! ===== 81: the law's start ===== -/
set_option maxHeartbeats 8000000 in
set_option maxRecDepth 100000 in
theorem law_start {R : dp_Z → dp_Z → Prop} (hsim : lw_sim R) {σ0 μ0 : dp_Z} (h5 : j_X5_init = some σ0) (h6 : j_X6_init = some μ0) (hR : R σ0 μ0) {p : Program} {e : Env} {s : State} {m : MethodId} {below : List Frame} {meth : Method} {c : Code} (l : Launch) {b L : Nat} {xs : Nat → Int32} (hL : L ≤ 2048) (C0 : lw_At p s m meth c b L xs) : W p l e room_1 s m #[Value.ref b] below meth c s.heap [] 0 0 (lw_Z below #[Value.ref b] s) (entryFrame m ([Value.ref b] : List Value).toArray 4) := by
  obtain ⟨hx, hb, hr, hml, hown, hts0, hXs, hbl, hlocks, hgv⟩ := id C0
  have hts : ∀ w ∈ dp_g, w.before #[Value.ref b] s = true := fun w hw => hts0 w (List.mem_filter.mp hw).1
  have hnw : ∀ w ∈ dp_nw, va_Nw w s := fun w hw => by
    have h1 := hts0 w (List.mem_filter.mp hw).1
    have hi := (List.mem_filter.mp hw).2
    cases w <;> first | exact va_Nw.of rfl h1 | cases hi
  have S : CallFix p m c code 4 s #[Value.ref b] dp_g "NearLiarsLaw" := ⟨hx, hb, hml, hown, hts⟩
  obtain ⟨c0, i0, hK0⟩ := u_known (C := RX0) (T := TX0) (N := 9) (n := 9) hts cf_0.1 (hts _ dq_192)
  obtain ⟨c1, i1, hK1⟩ := u_known (C := RX1) (T := TX1) (N := 2) (n := 2) hts cf_1.1 (hts _ dq_177)
  obtain ⟨c2, i2, hK2⟩ := u_known (C := RX2) (T := TX2) (N := 8) (n := 8) hts cf_2.1 (hts _ dq_59)
  obtain ⟨c3, i3, hK3⟩ := u_known (C := RX3) (T := TX3) (N := 7) (n := 7) hts cf_3.1 (hts _ dq_120)
  obtain ⟨c4, i4, hK4⟩ := u_known (C := RX4) (T := TX4) (N := 4) (n := 4) hts cf_4.1 (hts _ dq_154)
  obtain ⟨c5, i5, hK5⟩ := u_known (C := RX5) (T := TX5) (N := 5) (n := 5) hts cf_5.1 (hts _ dq_51)
  obtain ⟨c6, i6, hK6⟩ := u_known (C := RX6) (T := TX6) (N := 26) (n := 26) hts cf_6.1 (hts _ dq_565)
  obtain ⟨cI, kI, mI, fI, gI, tI⟩ := Cond.arrayClass_spec (hts _ dq_118)
  obtain ⟨cZ, kZ, mZ, fZ, gZ, tZ⟩ := Cond.arrayClass_spec (hts _ dq_668)
  obtain ⟨D, hK⟩ : ∃ D : va_G, va_K D vwCl [(cI, .int), (cZ, .boolean)] s := by
    refine ⟨(fun k => match k with | 0 => c0 | 1 => c1 | 2 => c2 | 3 => c3 | 4 => c4 | 5 => c5 | _ => c6, fun k => match k with | 0 => i0 | 1 => i1 | 2 => i2 | 3 => i3 | 4 => i4 | 5 => i5 | _ => i6), fun k q hq => ?_, fun k q hq => ?_⟩
    · match k, hq with
      | 0, hq => cases hq; exact hK0
      | 1, hq => cases hq; exact hK1
      | 2, hq => cases hq; exact hK2
      | 3, hq => cases hq; exact hK3
      | 4, hq => cases hq; exact hK4
      | 5, hq => cases hq; exact hK5
      | 6, hq => cases hq; exact hK6
      | k + 7, hq => simp [vwCl] at hq
    · match k, hq with
      | 0, hq => cases hq; exact ⟨fun n z => ⟨fun k h => (by cases h), kI, gI, mI, tI⟩, fI⟩
      | 1, hq => cases hq; exact ⟨fun n z => ⟨fun k h => (by cases h), kZ, gZ, mZ, tZ⟩, fZ⟩
      | k + 2, hq => simp at hq
  have hl := lv_entry ([.ref b]) (n := 4) (Nat.le_of_ble_eq_true rfl)
  rw [lg_entry_eq]
  generalize (lg_sl ([.ref b]) ++ List.replicate (4 - (lg_sl ([.ref b])).length) Slot.unset).toArray = ls at hl ⊢
  have hl : lv_has ls 4 [(0, .ref b)] := hl
  have hP0 : va_P D vwCl (dp_ws cI cZ s.heap.size []) s.heap := fun k q h => by simp [dp_ws] at h
  have hD0 : va_D (va_A (dp_ws cI cZ s.heap.size []) s.heap.size) (dp_ws cI cZ s.heap.size []) := dp_D0
  have hA : ∀ q : Nat, s.heap.size ≤ q → va_A (dp_ws cI cZ s.heap.size []) s.heap.size q := fun q z => Or.inr z
  have hA' : ∀ q : Nat, va_A (dp_ws cI cZ s.heap.size []) s.heap.size q → s.heap.size ≤ q := fun q z => z.elim (fun ⟨j, y, hj⟩ => by simp [dp_ws] at hj) id
  have hSS : ∀ {H : Heap} {locs : List Loc}, va_S (va_A (dp_ws cI cZ s.heap.size []) s.heap.size) s.heap H locs → va_S (fun q => s.heap.size ≤ q) s.heap H locs := fun h => ⟨h.1, fun q z1 z2 => h.2.1 q z1 (fun z => z2 (hA' q z)), fun l hl => hA' _ (h.2.2 l hl)⟩
  have hSB : ∀ {H : Heap} {locs : List Loc}, va_S (fun q => s.heap.size ≤ q) s.heap H locs → va_S (va_A (dp_ws cI cZ s.heap.size []) s.heap.size) s.heap H locs := fun h => ⟨h.1, fun q z1 z2 => h.2.1 q z1 (fun z => z2 (hA q z)), fun l hl => hA _ (h.2.2 l hl)⟩
  refine va_new (fs := ([.inr none, .inr none, .inr none, .inr none, .inr none] : List dp_V).map (dp_cv s.heap.size)) (ci := 5) (C := RX5) (T := TX5) (N := 5) hx hb hts cf_5.1 tyX5 tyX5_ok hown (hts _ dq_50) (hts _ dq_51) (hts _ dq_39) hK hP0 hD0 va_S.rf hA rfl (df_5 s.heap.size) (Nat.le_of_ble_eq_true rfl) (Nat.le_of_ble_eq_true rfl) dL_0 (fun qn H u1 u2 u3 => ?_)
  refine dp_born (h := []) (h0 := []) (k := 0) u1 u2 rfl rfl rfl (fun hq => ?_)
  have hq : qn = s.heap.size := hq
  subst hq
  have u1' : va_P D vwCl (dp_ws cI cZ s.heap.size [.inr (5, [.inr none, .inr none, .inr none, .inr none, .inr none])]) H := u1
  refine lv_dup hx hb dL_3 rfl ?_
  refine dp_size (h := [.inr (5, [.inr none, .inr none, .inr none, .inr none, .inr none])]) u1' (Nat.le_of_ble_eq_true rfl) rfl (fun hz => ?_)
  refine lw_ctor S hnw hK okX5_init rfl ll_X5_init npX5_init (c_X5_init σ0 h5) (Nat.le_of_ble_eq_true rfl) u1' hz (Nat.le_refl _) (hSS u3) hl.1 (Nat.le_of_ble_eq_true rfl) dL_4 (Nat.le_of_ble_eq_true rfl) (Nat.le_of_ble_eq_true rfl) (fun H1 locs1 g1 g2 g3 => ?_)
  refine lv_astore_n (lv' := [(1, .ref s.heap.size), (0, .ref b)]) hx hb dL_7 rfl hl (by decide) rfl (fun ls hl => ?_)
  have hD1 : va_D (va_A (dp_ws cI cZ s.heap.size []) s.heap.size) (dp_ws cI cZ s.heap.size (hX σ0)) := dp_D1 (fun k _ => Or.inr (Nat.le_add_right _ _))
  refine va_new (fs := ([.inl 0, .inl 0, .inl 0, .inr none, .inl 0, .inl 0, .inl 0, .inr none, .inr none, .inl 0, .inl 0, .inr none, .inr none, .inr none, .inr none, .inl 0, .inl 0, .inl 0, .inl 0, .inr none, .inl 0, .inr none, .inl 0, .inr none, .inr none, .inr none] : List dp_V).map (dp_cv (s.heap.size + 19))) (ci := 6) (C := RX6) (T := TX6) (N := 26) hx hb hts cf_6.1 tyX6 tyX6_ok hown (hts _ dq_564) (hts _ dq_565) (hts _ dq_47) hK g1 hD1 (hSB g3) hA rfl (df_6 (s.heap.size + 19)) (Nat.le_of_ble_eq_true rfl) (Nat.le_of_ble_eq_true rfl) dL_8 (fun qn H2 v1 v2 v3 => ?_)
  refine dp_born (h := hX σ0) (h0 := []) (k := 19) v1 v2 rfl rfl rfl (fun hq => ?_)
  have hq : qn = s.heap.size + 19 := hq
  subst hq
  have w1 : va_P D vwCl (dp_ws cI cZ s.heap.size (hX σ0)) H2 := fun k q hk => v1 k q (by rw [List.getElem?_append_left (List.getElem?_eq_some_iff.mp hk).1]; exact hk)
  have w2 : va_P D vwCl (dp_ws cI cZ (s.heap.size + 19) [.inr (6, [.inl 0, .inl 0, .inl 0, .inr none, .inl 0, .inl 0, .inl 0, .inr none, .inr none, .inl 0, .inl 0, .inr none, .inr none, .inr none, .inr none, .inl 0, .inl 0, .inl 0, .inl 0, .inr none, .inl 0, .inr none, .inl 0, .inr none, .inr none, .inr none])]) H2 := by
    intro k q hk
    match k, hk with
    | 0, hk =>
      refine v1 19 q ?_
      cases hk
      rfl
    | k + 1, hk => simp [dp_ws] at hk
  refine lv_dup hx hb dL_11 rfl ?_
  refine dp_size (h := [.inr (6, [.inl 0, .inl 0, .inl 0, .inr none, .inl 0, .inl 0, .inl 0, .inr none, .inr none, .inl 0, .inl 0, .inr none, .inr none, .inr none, .inr none, .inl 0, .inl 0, .inl 0, .inl 0, .inr none, .inl 0, .inr none, .inl 0, .inr none, .inr none, .inr none])]) (b := s.heap.size + 19) w2 (Nat.le_of_ble_eq_true rfl) rfl (fun hz => ?_)
  refine lw_ctor S hnw hK okX6_init rfl ll_X6_init npX6_init (c_X6_init μ0 h6) (Nat.le_of_ble_eq_true rfl) w2 hz (Nat.le_add_right _ _) (hSS v3) hl.1 (Nat.le_of_ble_eq_true rfl) dL_12 (Nat.le_of_ble_eq_true rfl) (Nat.le_of_ble_eq_true rfl) (fun H3 locs3 g4 g5 g6 => ?_)
  have w3 : va_P D vwCl (dp_ws cI cZ s.heap.size (hX σ0)) H3 := lw_keep w1 g5 (fun i j hi hj => by
    have h1 : i < 19 := hi
    omega)
  refine lv_astore_n (lv' := [(2, .ref (s.heap.size + 19)), (1, .ref s.heap.size), (0, .ref b)]) hx hb dL_15 rfl hl (by decide) rfl (fun ls hl => ?_)
  refine lv_iconst (v := 0) hx hb dL_16 (by decide) ?_
  refine lv_istore_n (lv' := [(3, .int 0), (2, .ref (s.heap.size + 19)), (1, .ref s.heap.size), (0, .ref b)]) hx hb dL_17 rfl hl (by decide) rfl (fun ls hl => ?_)
  exact law_loop hsim hL C0 hK (L + 5) 0 (by omega) (by omega) σ0 μ0 H3 locs3 ls hR ⟨w3, g4, g6⟩ hl

