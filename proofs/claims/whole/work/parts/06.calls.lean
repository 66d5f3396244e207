/-! ===== 06: calls, and the making of cells ===== -/
/-- the links of a call: by a class's own or public name (V, S, I), by a nest mate's (VN, SN, IN) -/
def dp_Lv (own : String) (idx : Nat) (y : MethodName) : Prop := Cond.methodLink own idx y ∈ dp_g ∧ Cond.instanceMethod y ∈ dp_g ∧ Cond.selects y.cls y y ∈ dp_g ∧ Cond.initialized y.cls ∈ dp_g
def dp_Lvn (own : String) (idx : Nat) (y : MethodName) : Prop := (∃ host, Cond.methodLinkNest own idx y host ∈ dp_nw) ∧ Cond.instanceMethod y ∈ dp_g ∧ Cond.selects y.cls y y ∈ dp_g ∧ Cond.initialized y.cls ∈ dp_g
def dp_Ls (own : String) (idx : Nat) (y : MethodName) : Prop := Cond.methodLink own idx y ∈ dp_g ∧ Cond.static y ∈ dp_g ∧ Cond.initialized y.cls ∈ dp_g
def dp_Lsn (own : String) (idx : Nat) (y : MethodName) : Prop := (∃ host, Cond.methodLinkNest own idx y host ∈ dp_nw) ∧ Cond.static y ∈ dp_g ∧ Cond.initialized y.cls ∈ dp_g
def dp_Li (own : String) (idx : Nat) (y : MethodName) : Prop := Cond.methodLink own idx y ∈ dp_g ∧ Cond.instanceMethod y ∈ dp_g ∧ Cond.initialized y.cls ∈ dp_g ∧ y.name = "<init>"
def dp_Lin (own : String) (idx : Nat) (y : MethodName) : Prop := (∃ host, Cond.methodLinkNest own idx y host ∈ dp_nw) ∧ Cond.instanceMethod y ∈ dp_g ∧ Cond.initialized y.cls ∈ dp_g ∧ y.name = "<init>"
/-- how many parameters -/
def dp_np (y : MethodName) (n : Nat) : Prop := (parseMethodDescriptor y.desc).map (fun d => d.parameters.length) = some n
theorem dp_good {M : dp_M} (hM : dp_ok M) : GoodIn dp_g (dp_w M) := by
  intro w hw
  have hg : w ∈ dp_g := (List.mem_cons.mp hw).elim (fun e => e ▸ hM.2.2.1) id
  exact ⟨hg, good_of_word (List.mem_filter.mp hg).2⟩
theorem dp_catsum {b : Nat} : ∀ (r : List dp_V), ((r.map (dp_cv b)).map fun v => v.category).sum = r.length
  | [] => rfl
  | v :: r => by
    have := dp_catsum (b := b) r
    simp only [List.map_cons, List.sum_cons, List.length_cons, dp_cat, this]
    omega
section DQ
variable {M N : dp_M} {p : Program} {l : Launch} {e : Env} {R : Room} {s : State} {m : MethodId} {args : Array Value} {below : List Frame} {meth : Method} {c : Code} {D : va_G} {cI cZ : ClassId} {b : Nat} {A : Nat → Prop} {Q : State → Prop} {k n mc ms : Nat} {H : Heap} {locs : List Loc} {h : dp_H} {ls : Array Slot}
theorem dp_size {g : JFrame} (hP : va_P D vwCl (dp_ws cI cZ b h) H) (h0 : 0 < h.length) (hlen : s.heap.size + k = b + h.length) (kk : H.size = b + h.length → W p l e R s m args below meth c H locs k n Q g) : W p l e R s m args below meth c H locs k n Q g := by
  intro T hT X
  refine kk ?_ T hT X
  have h1 : T.heap.size ≤ s.heap.size + k := X.same.2.2.1
  rw [hT] at h1
  have h2 : h[h.length - 1]? = some h[h.length - 1] := List.getElem?_eq_getElem (by omega)
  have h3 : b + (h.length - 1) < H.size := (hP _ _ (dp_ws_at h2)).lt
  omega
/-- behind a call -/
theorem dp_after {post : Option dp_V → dp_H → Prop} {pc : Nat} {st0 : List Value} {r : List dp_V} {a : Array Value} {nL : Nat} {L : List (Option dp_V)}
    (hr : va_Run p l e R s m args below meth c H locs k n mc ms (F0 m pc ls st0) (r.map (dp_cv b)) (dp_Q D cI cZ b h H.size post a) (va_A (dp_ws cI cZ b h) H.size))
    (hA : ∀ q : Nat, s.heap.size ≤ q → A q) (h3 : va_D A (dp_ws cI cZ b h)) (h4 : va_S A s.heap H locs) (h5 : dp_L b ls nL L)
    (kk : ∀ (rv : Option dp_V) (h' : dp_H), post rv h' → dp_G p l e R s m args below meth c D cI cZ b A nL Q (k + mc) (n + ms) (pc + 3, L, rv.toList ++ r, h')) : W p l e R s m args below meth c H locs k n Q (F0 m pc ls st0) := by
  have hF : ∀ q, va_A (dp_ws cI cZ b h) H.size q → A q := by
    intro q hq
    rcases hq with ⟨j, x, hj⟩ | hq
    · exact h3.2 j (q, x) hj
    · exact hA q (Nat.le_trans h4.1 hq)
  intro T hT X
  obtain ⟨v, st₀, t, T', L1, g0, X', hL, e1, e2, ⟨⟨rv, h', hv, hp, hP', hD'⟩, hz, hk⟩, st⟩ := hr T hT X
  have hv' : v = rv.map (dp_cv b) := by cases hv; rfl
  subst hv'
  rw [g0] at hz hk
  have hD2 : va_D A (dp_ws cI cZ b h') := hD'.weaken (fun _ q _ z => hF q.1 z)
  have hS2 : va_S A s.heap T'.heap (locs ++ L1) := by
    refine ⟨Nat.le_trans h4.1 (by rw [e1]; exact hz), fun q z1 z2 => ?_, fun q hq => ?_⟩
    · rw [e1, hk q (Nat.lt_of_lt_of_le z1 h4.1) (fun z => z2 (hF q z))]
      exact h4.2.1 q z1 z2
    · rcases List.mem_append.mp hq with z | z
      · exact h4.2.2 q z
      · exact hF _ (hL q z)
  have hst : (rv.map (dp_cv b)).toList ++ r.map (dp_cv b) = (rv.toList ++ r).map (dp_cv b) := by cases rv <;> simp
  obtain ⟨t2, a1, b1⟩ := kk rv h' hp T'.heap (locs ++ L1) ls (by rw [e1]; exact hP') hD2 hS2 h5 T' rfl X'
  refine ⟨t2, st t2 ?_, b1⟩
  rw [hst]
  exact a1
end DQ
section DC
variable {d d' : Nat} {M N : dp_M} {al al' : Bool} {h0 : dp_H} {mc ms mc' ms' : Nat} {post post' : Option dp_V → dp_H → Prop} {k n : Nat} {pc : Nat} {L : List (Option dp_V)} {st : List dp_V} {h : dp_H} {as r : List dp_V} {q idx : Nat}
theorem dp_rm (hd : d' + 1 ≤ d) (hN : dp_ok N) : (dp_room d' mc' ms').frames + 1 ≤ (dp_room d mc ms).frames ∧ 8 + (N.2.2.2.1 + 11) + (dp_room d' mc' ms').locals ≤ (dp_room d mc ms).locals := by
  have := hN.2.2.2.2.2.2
  refine ⟨hd, ?_⟩
  show 8 + (N.2.2.2.1 + 11) + 40 * d' ≤ 40 * d
  omega
theorem dp_fit (hk : k + mc' ≤ mc) (hn : n + ms' ≤ ms) : k + mc' ≤ (dp_room d mc ms).cells ∧ n + ms' ≤ (dp_room d mc ms).slots := ⟨hk, hn⟩
theorem dp_hd (hN : dp_ok N) {j : Nat} (hp : dp_np N.2.1 j) : N.2.1.cls ≠ "java/lang/invoke/MethodHandle" ∧ N.2.1.cls ≠ "java/lang/invoke/VarHandle" ∧ (parseMethodDescriptor N.2.1.desc).map (fun d => d.parameters.length) = some j := by
  obtain ⟨-, hc, -, -, h1, h2, -⟩ := hN
  rw [hc]
  exact ⟨h1, h2, hp⟩
theorem dp_callV (hM : dp_ok M) (hN : dp_ok N) {len a b' f : Nat} {v : Int32} (ht : M.2.2.2.2.2[pc]? = some (some (.invokevirtual idx, len, a, b', f, v))) (hlk : dp_Lv M.1 idx N.2.1) (hnp : dp_np N.2.1 as.length) (hC : dp_C d' N al' (.inr (some q) :: as) h mc' ms' post')
    {ci : Nat} {fs : List dp_V} {C : vw_C} (hq : h[q]? = some (.inr (ci, fs))) (hc : vwCl[ci]? = some C) (hc2 : C.1 = N.1) (hst : st = as.reverse ++ .inr (some q) :: r) (hr : r.length ≤ 8) (hd : d' + 1 ≤ d) (hk : k + mc' ≤ mc) (hn : n + ms' ≤ ms) (hal : al' = true → al = true ∧ h.length = h0.length + k)
    (kk : ∀ (rv : Option dp_V) (h' : dp_H), post' rv h' → dp_W d M al h0 mc ms post (k + mc') (n + ms') (pc + 3, L, rv.toList ++ r, h')) : dp_W d M al h0 mc ms post k n (pc, L, st, h) := by
  obtain ⟨hdc, hlen, -⟩ := dp_X_of hM ht
  dsimp only at hdc hlen
  obtain rfl := dp_lenE hlen rfl
  intro p l e s m args below meth c D cI cZ b E ha H locs ls h2 h3 h4 h5
  have E0 := E
  obtain ⟨hx, hb, hml, -, -, -, hown, hts, hnw, hK⟩ := E0
  have hlt : q < h.length := (List.getElem?_eq_some_iff.mp hq).1
  have main : (al' = true → H.size = b + h.length) → W p l e (dp_room d mc ms) s m args below meth c H locs k n (MQ below (dp_Q D cI cZ b h0 s.heap.size post) args s mc ms (va_A (dp_ws cI cZ b h0) s.heap.size)) (F0 m pc ls (st.map (dp_cv b))) := by
    intro hsz
    refine dp_after (nL := M.2.2.2.1) (L := L) (va_runV (As := as.map (dp_cv b)) (b := b + q) (C := N.1) ⟨hx, hb, hml, hown, hts⟩ (hC l D cI cZ b H.size) ⟨callB_of as.length hts (dp_good hN) rfl rfl rfl (hts _ hlk.2.2.2) (hts _ hlk.1) (dp_hd hN hnp) (dp_rm hd hN), hts _ hlk.2.1, hN.2.1 ▸ hts _ hlk.2.2.1⟩
      ⟨dp_blind, hc2 ▸ va_recv hK h2 hc (dp_ws_at hq), fun U hU hW => ⟨rfl, by rw [hU], (fun z => hsz z), by rw [hU]; exact h2, va_K.moved hW.alike hK, fun w hw => dp_nw_warm hw hW (hnw w hw)⟩⟩
      rfl (by rw [List.length_map]) h5.1.1 (by rw [hst]; simp [dp_cv]) (lv_room (by rw [dp_catsum]; exact hr)) hdc (dp_fit hk hn)) (fun q z => Or.inr z) h3 h4 h5
      (fun rv h' hp => kk rv h' hp p l e s m args below meth c D cI cZ b E ha)
  cases al' with
  | false => exact main (fun z => by cases z)
  | true =>
    obtain ⟨z1, z2⟩ := hal rfl
    have z3 := ha z1
    exact dp_size (h := h) h2 (by omega) (by omega) (fun z => main (fun _ => z))
theorem dp_callVN (hM : dp_ok M) (hN : dp_ok N) {len a b' f : Nat} {v : Int32} (ht : M.2.2.2.2.2[pc]? = some (some (.invokevirtual idx, len, a, b', f, v))) (hlk : dp_Lvn M.1 idx N.2.1) (hnp : dp_np N.2.1 as.length) (hC : dp_C d' N false (.inr (some q) :: as) h mc' ms' post')
    {ci : Nat} {fs : List dp_V} {C : vw_C} (hq : h[q]? = some (.inr (ci, fs))) (hc : vwCl[ci]? = some C) (hc2 : C.1 = N.1) (hst : st = as.reverse ++ .inr (some q) :: r) (hr : r.length ≤ 8) (hd : d' + 1 ≤ d) (hk : k + mc' ≤ mc) (hn : n + ms' ≤ ms)
    (kk : ∀ (rv : Option dp_V) (h' : dp_H), post' rv h' → dp_W d M al h0 mc ms post (k + mc') (n + ms') (pc + 3, L, rv.toList ++ r, h')) : dp_W d M al h0 mc ms post k n (pc, L, st, h) := by
  obtain ⟨hdc, hlen, -⟩ := dp_X_of hM ht
  dsimp only at hdc hlen
  obtain rfl := dp_lenE hlen rfl
  intro p l e s m args below meth c D cI cZ b E ha H locs ls h2 h3 h4 h5
  have E0 := E
  obtain ⟨hx, hb, hml, -, -, -, hown, hts, hnw, hK⟩ := E0
  obtain ⟨⟨host, hl1⟩, hl2, hl3, hl4⟩ := hlk
  exact dp_after (nL := M.2.2.2.1) (L := L) (va_runVN (As := as.map (dp_cv b)) (b := b + q) (C := N.1) ⟨hx, hb, hml, hown, hts⟩ (hC l D cI cZ b H.size) ⟨va_cnB as.length hts (dp_good hN) rfl rfl rfl (hnw _ hl1) (hts _ hl4) (dp_hd hN hnp) (dp_rm hd hN), hts _ hl2, hN.2.1 ▸ hts _ hl3⟩
      ⟨dp_blind, hc2 ▸ va_recv hK h2 hc (dp_ws_at hq), fun U hU hW => ⟨rfl, by rw [hU], (fun z => by cases z), by rw [hU]; exact h2, va_K.moved hW.alike hK, fun w hw => dp_nw_warm hw hW (hnw w hw)⟩⟩
      rfl (by rw [List.length_map]) h5.1.1 (by rw [hst]; simp [dp_cv]) (lv_room (by rw [dp_catsum]; exact hr)) hdc (dp_fit hk hn)) (fun q z => Or.inr z) h3 h4 h5
      (fun rv h' hp => kk rv h' hp p l e s m args below meth c D cI cZ b E ha)
theorem dp_callS (hM : dp_ok M) (hN : dp_ok N) {len a b' f : Nat} {v : Int32} (ht : M.2.2.2.2.2[pc]? = some (some (.invokestatic idx, len, a, b', f, v))) (hlk : dp_Ls M.1 idx N.2.1) (hnp : dp_np N.2.1 as.length) (hC : dp_C d' N false as h mc' ms' post')
    (hst : st = as.reverse ++ r) (hr : r.length ≤ 8) (hd : d' + 1 ≤ d) (hk : k + mc' ≤ mc) (hn : n + ms' ≤ ms)
    (kk : ∀ (rv : Option dp_V) (h' : dp_H), post' rv h' → dp_W d M al h0 mc ms post (k + mc') (n + ms') (pc + 3, L, rv.toList ++ r, h')) : dp_W d M al h0 mc ms post k n (pc, L, st, h) := by
  obtain ⟨hdc, hlen, -⟩ := dp_X_of hM ht
  dsimp only at hdc hlen
  obtain rfl := dp_lenE hlen rfl
  intro p l e s m args below meth c D cI cZ b E ha H locs ls h2 h3 h4 h5
  have E0 := E
  obtain ⟨hx, hb, hml, -, -, -, hown, hts, hnw, hK⟩ := E0
  exact dp_after (nL := M.2.2.2.1) (L := L) (va_runS (As := as.map (dp_cv b)) ⟨hx, hb, hml, hown, hts⟩ (hC l D cI cZ b H.size) ⟨callB_of as.length hts (dp_good hN) rfl rfl rfl (hts _ hlk.2.2) (hts _ hlk.1) (dp_hd hN hnp) (dp_rm hd hN), hts _ hlk.2.1⟩
      ⟨dp_blind, fun U hU hW => ⟨rfl, by rw [hU], (fun z => by cases z), by rw [hU]; exact h2, va_K.moved hW.alike hK, fun w hw => dp_nw_warm hw hW (hnw w hw)⟩⟩
      rfl (by rw [List.length_map]) h5.1.1 (by rw [hst]; simp [dp_cv]) (lv_room (by rw [dp_catsum]; exact hr)) hdc (dp_fit hk hn)) (fun q z => Or.inr z) h3 h4 h5
      (fun rv h' hp => kk rv h' hp p l e s m args below meth c D cI cZ b E ha)
theorem dp_callSN (hM : dp_ok M) (hN : dp_ok N) {len a b' f : Nat} {v : Int32} (ht : M.2.2.2.2.2[pc]? = some (some (.invokestatic idx, len, a, b', f, v))) (hlk : dp_Lsn M.1 idx N.2.1) (hnp : dp_np N.2.1 as.length) (hC : dp_C d' N false as h mc' ms' post')
    (hst : st = as.reverse ++ r) (hr : r.length ≤ 8) (hd : d' + 1 ≤ d) (hk : k + mc' ≤ mc) (hn : n + ms' ≤ ms)
    (kk : ∀ (rv : Option dp_V) (h' : dp_H), post' rv h' → dp_W d M al h0 mc ms post (k + mc') (n + ms') (pc + 3, L, rv.toList ++ r, h')) : dp_W d M al h0 mc ms post k n (pc, L, st, h) := by
  obtain ⟨hdc, hlen, -⟩ := dp_X_of hM ht
  dsimp only at hdc hlen
  obtain rfl := dp_lenE hlen rfl
  intro p l e s m args below meth c D cI cZ b E ha H locs ls h2 h3 h4 h5
  have E0 := E
  obtain ⟨hx, hb, hml, -, -, -, hown, hts, hnw, hK⟩ := E0
  obtain ⟨⟨host, hl1⟩, hl2, hl4⟩ := hlk
  exact dp_after (nL := M.2.2.2.1) (L := L) (va_runSN (As := as.map (dp_cv b)) ⟨hx, hb, hml, hown, hts⟩ (hC l D cI cZ b H.size) ⟨va_cnB as.length hts (dp_good hN) rfl rfl rfl (hnw _ hl1) (hts _ hl4) (dp_hd hN hnp) (dp_rm hd hN), hts _ hl2, trivial⟩
      ⟨dp_blind, fun U hU hW => ⟨rfl, by rw [hU], (fun z => by cases z), by rw [hU]; exact h2, va_K.moved hW.alike hK, fun w hw => dp_nw_warm hw hW (hnw w hw)⟩⟩
      rfl (by rw [List.length_map]) h5.1.1 (by rw [hst]; simp [dp_cv]) (lv_room (by rw [dp_catsum]; exact hr)) hdc (dp_fit hk hn)) (fun q z => Or.inr z) h3 h4 h5
      (fun rv h' hp => kk rv h' hp p l e s m args below meth c D cI cZ b E ha)
theorem dp_callI (hM : dp_ok M) (hN : dp_ok N) (hNr : N.2.2.2.2.1 = none) {len a b' f : Nat} {v : Int32} (ht : M.2.2.2.2.2[pc]? = some (some (.invokespecial idx, len, a, b', f, v))) (hlk : dp_Li M.1 idx N.2.1) (hnp : dp_np N.2.1 as.length) (hC : dp_C d' N true (.inr (some q) :: as) h mc' ms' post')
    (hq : q < h.length) (hst : st = as.reverse ++ .inr (some q) :: r) (hr : r.length ≤ 8) (hd : d' + 1 ≤ d) (hk : k + mc' ≤ mc) (hn : n + ms' ≤ ms) (hal : al = true ∧ h.length = h0.length + k)
    (kk : ∀ (rv : Option dp_V) (h' : dp_H), post' rv h' → dp_W d M al h0 mc ms post (k + mc') (n + ms') (pc + 3, L, rv.toList ++ r, h')) : dp_W d M al h0 mc ms post k n (pc, L, st, h) := by
  obtain ⟨hdc, hlen, -⟩ := dp_X_of hM ht
  dsimp only at hdc hlen
  obtain rfl := dp_lenE hlen rfl
  intro p l e s m args below meth c D cI cZ b E ha H locs ls h2 h3 h4 h5
  have E0 := E
  obtain ⟨hx, hb, hml, -, -, -, hown, hts, hnw, hK⟩ := E0
  have z3 := ha hal.1
  have z2 := hal.2
  refine dp_size (h := h) h2 (by omega) (by omega) (fun hsz => ?_)
  exact dp_after (nL := M.2.2.2.1) (L := L) (va_runI (As := as.map (dp_cv b)) (b := b + q) ⟨hx, hb, hml, hown, hts⟩ (hC l D cI cZ b H.size) ⟨hNr ▸ callB_of as.length hts (dp_good hN) rfl rfl rfl (hts _ hlk.2.2.1) (hts _ hlk.1) (dp_hd hN hnp) (dp_rm hd hN), hlk.2.2.2, hts _ hlk.2.1⟩
      ⟨dp_blind, fun U hU hW => ⟨rfl, by rw [hU], (fun z => hsz), by rw [hU]; exact h2, va_K.moved hW.alike hK, fun w hw => dp_nw_warm hw hW (hnw w hw)⟩⟩
      rfl (by rw [List.length_map]) h5.1.1 (by rw [hst]; simp [dp_cv]) (lv_room (by rw [dp_catsum]; exact hr)) hdc (dp_fit hk hn)) (fun q z => Or.inr z) h3 h4 h5
      (fun rv h' hp => kk rv h' hp p l e s m args below meth c D cI cZ b E ha)
theorem dp_callIN (hM : dp_ok M) (hN : dp_ok N) (hNr : N.2.2.2.2.1 = none) {len a b' f : Nat} {v : Int32} (ht : M.2.2.2.2.2[pc]? = some (some (.invokespecial idx, len, a, b', f, v))) (hlk : dp_Lin M.1 idx N.2.1) (hnp : dp_np N.2.1 as.length) (hC : dp_C d' N true (.inr (some q) :: as) h mc' ms' post')
    (hq : q < h.length) (hst : st = as.reverse ++ .inr (some q) :: r) (hr : r.length ≤ 8) (hd : d' + 1 ≤ d) (hk : k + mc' ≤ mc) (hn : n + ms' ≤ ms) (hal : al = true ∧ h.length = h0.length + k)
    (kk : ∀ (rv : Option dp_V) (h' : dp_H), post' rv h' → dp_W d M al h0 mc ms post (k + mc') (n + ms') (pc + 3, L, rv.toList ++ r, h')) : dp_W d M al h0 mc ms post k n (pc, L, st, h) := by
  obtain ⟨hdc, hlen, -⟩ := dp_X_of hM ht
  dsimp only at hdc hlen
  obtain rfl := dp_lenE hlen rfl
  intro p l e s m args below meth c D cI cZ b E ha H locs ls h2 h3 h4 h5
  have E0 := E
  obtain ⟨hx, hb, hml, -, -, -, hown, hts, hnw, hK⟩ := E0
  obtain ⟨⟨host, hl1⟩, hl2, hl4, hl5⟩ := hlk
  have z3 := ha hal.1
  have z2 := hal.2
  refine dp_size (h := h) h2 (by omega) (by omega) (fun hsz => ?_)
  exact dp_after (nL := M.2.2.2.1) (L := L) (va_runIN (As := as.map (dp_cv b)) (b := b + q) ⟨hx, hb, hml, hown, hts⟩ (hC l D cI cZ b H.size) ⟨hNr ▸ va_cnB as.length hts (dp_good hN) rfl rfl rfl (hnw _ hl1) (hts _ hl4) (dp_hd hN hnp) (dp_rm hd hN), hl5, hts _ hl2⟩
      ⟨dp_blind, fun U hU hW => ⟨rfl, by rw [hU], (fun z => hsz), by rw [hU]; exact h2, va_K.moved hW.alike hK, fun w hw => dp_nw_warm hw hW (hnw w hw)⟩⟩
      rfl (by rw [List.length_map]) h5.1.1 (by rw [hst]; simp [dp_cv]) (lv_room (by rw [dp_catsum]; exact hr)) hdc (dp_fit hk hn)) (fun q z => Or.inr z) h3 h4 h5
      (fun rv h' hp => kk rv h' hp p l e s m args below meth c D cI cZ b E ha)
theorem dp_oinit (hM : dp_ok M) {len a b' f : Nat} {v : Int32} (ht : M.2.2.2.2.2[pc]? = some (some (.invokespecial idx, len, a, b', f, v))) (h1 : Cond.methodLink M.1 idx Lib.objectInit ∈ dp_g) (h2 : Cond.instanceMethod Lib.objectInit ∈ dp_g) (h3 : Cond.code Lib.objectInit ⟨#[0xb1]⟩ 1 none ∈ dp_g) (hd : 1 ≤ d) (hr : r.length ≤ 8)
    (kk : dp_W d M al h0 mc ms post k n (pc + 3, L, r, h)) : dp_W d M al h0 mc ms post k n (pc, L, .inr (some q) :: r, h) := by
  obtain ⟨hdc, hlen, -⟩ := dp_X_of hM ht
  dsimp only at hdc hlen
  obtain rfl := dp_lenE hlen rfl
  intro p l e s m args below meth c D cI cZ b E ha H locs ls g2 g3 g4 g5
  have E0 := E
  obtain ⟨hx, hb, hml, -, -, -, hown, hts, hnw, hK⟩ := E0
  exact W.objInit (rest := r.map (dp_cv b)) (a := b + q) hx hb hown (hts _ h1) (hts _ h2) (hts _ h3) rfl (by rw [hml]; exact g5.1.1) rfl hdc hd (by
    show 2 * 0 + _ + 12 ≤ 40 * d
    rw [dp_catsum]
    omega) (kk p l e s m args below meth c D cI cZ b E ha H locs ls g2 g3 g4 g5)
/-- the address of what was just made -/
theorem dp_born {p : Program} {l : Launch} {e : Env} {R : Room} {s : State} {m : MethodId} {args : Array Value} {below : List Frame} {meth : Method} {c : Code} {D : va_G} {cI cZ : ClassId} {b : Nat} {Q : State → Prop} {H1 : Heap} {locs : List Loc} {g : JFrame} {qn : Nat} {x : va_E} {k1 n1 : Nat}
    (hP : va_P D vwCl (dp_ws cI cZ b h ++ [(qn, x)]) H1) (hD : va_D (va_A (dp_ws cI cZ b h0) s.heap.size) (dp_ws cI cZ b h ++ [(qn, x)])) (hz : s.heap.size = b + h0.length) (hlen : h.length = h0.length + k) (hk1 : k1 = k + 1)
    (kk : qn = b + h.length → W p l e R s m args below meth c H1 locs k1 n1 Q g) : W p l e R s m args below meth c H1 locs k1 n1 Q g := by
  intro T hT X
  refine kk ?_ T hT X
  have u1 : T.heap.size ≤ s.heap.size + k1 := X.same.2.2.1
  rw [hT] at u1
  have hwl : (dp_ws cI cZ b h).length = h.length := by simp [dp_ws]
  have ul : (dp_ws cI cZ b h ++ [(qn, x)])[h.length]? = some (qn, x) := by
    rw [List.getElem?_append_right (by omega), hwl, Nat.sub_self]
    rfl
  have u2 : qn < H1.size := (hP _ _ ul).lt
  have u3 : ∀ i, i < h.length → qn ≠ b + i := by
    intro i hi hq
    have v1 : (dp_ws cI cZ b h ++ [(qn, x)])[i]? = some (b + i, dp_ce cI cZ b h[i]) := by
      rw [List.getElem?_append_left (by omega)]
      exact dp_ws_at (List.getElem?_eq_getElem hi)
    have := hD.1 _ _ _ _ ul v1 hq
    omega
  have u4 : s.heap.size ≤ qn := by
    rcases hD.2 _ _ ul with ⟨j, y, hj⟩ | z
    · obtain ⟨w, hw, e1⟩ := dp_ws_inv hj
      have e2 : qn = b + j := congrArg Prod.fst e1
      have := (List.getElem?_eq_some_iff.mp hw).1
      exact absurd e2 (u3 j (by omega))
    · exact z
  rcases Nat.lt_or_ge qn (b + h.length) with z | z
  · exact absurd (show qn = b + (qn - b) by omega) (u3 (qn - b) (by omega))
  · omega
theorem dp_new (hM : dp_ok M) {len a b' f : Nat} {v : Int32} (ht : M.2.2.2.2.2[pc]? = some (some (.new idx, len, a, b', f, v))) {ci : Nat} {C : vw_C} (hc : vwCl[ci]? = some C) (hCF : dp_CF C) (h1 : Cond.classLink M.1 idx C.1 ∈ dp_g) (h2 : Cond.instantiable C.1 C.2.2 ∈ dp_g) (h3 : Cond.initialized C.1 ∈ dp_g)
    (fs : List dp_V) (ty : Nat → FieldType) (hty : ∀ k, k < C.2.2 → parseFieldDescriptor (C.2.1 k).2.2.1 = some (ty k)) (hfs : ∀ b j, j < C.2.2 → defaultValue (ty j) = vp_V (fs.map (dp_cv b)) j) (hk : k + 1 ≤ mc) (hn : n + C.2.2 ≤ ms) (hal : al = true ∧ h.length = h0.length + k)
    (kk : dp_W d M al h0 mc ms post (k + 1) (n + C.2.2) (pc + 3, L, .inr (some h.length) :: st, h ++ [.inr (ci, fs)])) : dp_W d M al h0 mc ms post k n (pc, L, st, h) := by
  obtain ⟨hdc, hlen, -⟩ := dp_X_of hM ht
  dsimp only at hdc hlen
  obtain rfl := dp_lenE hlen rfl
  intro p l e s m args below meth c D cI cZ b E ha H locs ls g2 g3 g4 g5
  have E0 := E
  obtain ⟨hx, hb, hml, -, -, -, hown, hts, hnw, hK⟩ := E0
  obtain ⟨C0, T0, N0⟩ := C
  refine va_new (fs := fs.map (dp_cv b)) (ci := ci) hx hb hts hCF.1 ty hty hown (hts _ h1) (hts _ h2) (hts _ h3) hK g2 g3 g4 (fun q z => Or.inr z) hc (hfs b) hk hn hdc (fun qn H1 u1 u2 u3 => ?_)
  refine dp_born (h := h) (k := k) u1 u2 (ha hal.1) hal.2 rfl (fun hq => ?_)
  subst hq
  have hw : dp_ws cI cZ b h ++ [(b + h.length, .inr (ci, fs.map (dp_cv b)))] = dp_ws cI cZ b (h ++ [.inr (ci, fs)]) := dp_ws_push (.inr (ci, fs))
  have u1' : va_P D vwCl (dp_ws cI cZ b h ++ [(b + h.length, .inr (ci, fs.map (dp_cv b)))]) H1 := u1
  have u2' : va_D _ (dp_ws cI cZ b h ++ [(b + h.length, .inr (ci, fs.map (dp_cv b)))]) := u2
  rw [hw] at u1' u2'
  exact kk p l e s m args below meth c D cI cZ b E ha H1 locs ls u1' u2' u3 g5
theorem dp_newa (hM : dp_ok M) {z : Bool} {at1 : ArrayType} {len a b' f : Nat} {v x : Int32} {N1 : Nat} (ht : M.2.2.2.2.2[pc]? = some (some (.newarray at1, len, a, b', f, v))) (hat : newarray.typeOf at1 = if z = true then .boolean else .int) (h1 : Cond.arrayClass (newarray.typeOf at1) ∈ dp_g) (hx0 : ¬ x < 0) (hx1 : x.toNatClampNeg = N1) (hb1 : N1 ≤ 1000) (hk : k + 1 ≤ mc) (hn : n + N1 ≤ ms) (hal : al = true ∧ h.length = h0.length + k)
    (kk : dp_W d M al h0 mc ms post (k + 1) (n + N1) (pc + 2, L, .inr (some h.length) :: st, h ++ [.inl (z, N1, fun _ => 0)])) : dp_W d M al h0 mc ms post k n (pc, L, .inl x :: st, h) := by
  obtain ⟨hdc, hlen, -⟩ := dp_X_of hM ht
  dsimp only at hdc hlen
  obtain rfl := dp_lenE hlen rfl
  intro p l e s m args below meth c D cI cZ b E ha H locs ls g2 g3 g4 g5
  have E0 := E
  obtain ⟨hx, hb, hml, -, -, -, hown, hts, hnw, hK⟩ := E0
  cases z with
  | false =>
    rw [if_neg (by decide)] at hat
    refine va_newa (atype := at1) (ty := .int) (a0 := (N1, .inl (fun _ => 0))) hx hb (hts _ h1) hat hK g2 g3 g4 (fun q z => Or.inr z) (fun cA => rfl) hx0 hx1 (by show N1 * 4 ≤ _; omega) hk hn hdc (fun qn cA H1 uK u1 u2 u3 => ?_)
    refine dp_born (h := h) (k := k) u1 u2 (ha hal.1) hal.2 rfl (fun hq => ?_)
    subst hq
    have c1 : s.vm.findClass ("[" ++ FieldType.int.toString) = some cA := (uK.2 2 _ rfl).2
    have c2 : s.vm.findClass ("[" ++ FieldType.int.toString) = some cI := (uK.2 0 _ rfl).2
    have hcA : cA = cI := Option.some.inj (c1.symm.trans c2)
    subst hcA
    have hw : dp_ws cA cZ b h ++ [(b + h.length, .inl (cA, N1, .inl (fun _ => 0)))] = dp_ws cA cZ b (h ++ [.inl (false, N1, fun _ => 0)]) := dp_ws_push (.inl (false, N1, fun _ => 0))
    have u1' : va_P D vwCl (dp_ws cA cZ b h ++ [(b + h.length, .inl (cA, N1, .inl (fun _ => 0)))]) H1 := u1
    have u2' : va_D _ (dp_ws cA cZ b h ++ [(b + h.length, .inl (cA, N1, .inl (fun _ => 0)))]) := u2
    rw [hw] at u1' u2'
    exact kk p l e s m args below meth c D cA cZ b E ha H1 locs ls u1' u2' u3 g5
  | true =>
    rw [if_pos rfl] at hat
    refine va_newa (atype := at1) (ty := .boolean) (a0 := (N1, .inl (fun _ => 0))) hx hb (hts _ h1) hat hK g2 g3 g4 (fun q z => Or.inr z) (fun cA => rfl) hx0 hx1 (by show N1 * 1 ≤ _; omega) hk hn hdc (fun qn cA H1 uK u1 u2 u3 => ?_)
    refine dp_born (h := h) (k := k) u1 u2 (ha hal.1) hal.2 rfl (fun hq => ?_)
    subst hq
    have c1 : s.vm.findClass ("[" ++ FieldType.boolean.toString) = some cA := (uK.2 2 _ rfl).2
    have c2 : s.vm.findClass ("[" ++ FieldType.boolean.toString) = some cZ := (uK.2 1 _ rfl).2
    have hcA : cA = cZ := Option.some.inj (c1.symm.trans c2)
    subst hcA
    have hw : dp_ws cI cA b h ++ [(b + h.length, .inl (cA, N1, .inl (fun _ => 0)))] = dp_ws cI cA b (h ++ [.inl (true, N1, fun _ => 0)]) := dp_ws_push (.inl (true, N1, fun _ => 0))
    have u1' : va_P D vwCl (dp_ws cI cA b h ++ [(b + h.length, .inl (cA, N1, .inl (fun _ => 0)))]) H1 := u1
    have u2' : va_D _ (dp_ws cI cA b h ++ [(b + h.length, .inl (cA, N1, .inl (fun _ => 0)))]) := u2
    rw [hw] at u1' u2'
    exact kk p l e s m args below meth c D cI cA b E ha H1 locs ls u1' u2' u3 g5
theorem dp_acopy (hM : dp_ok M) {len a b' f : Nat} {v : Int32} (ht : M.2.2.2.2.2[pc]? = some (some (.invokestatic idx, len, a, b', f, v))) (h1 : Cond.methodLink M.1 idx arraycopyName ∈ dp_g) (h2 : Cond.native arraycopyName ∈ dp_g) (h3 : Cond.static arraycopyName ∈ dp_g) (h4 : Cond.initialized "java/lang/System" ∈ dp_g)
    {q0 q1 n0 n1 : Nat} {g0 g1 : Nat → Int32} (hq0 : h[q0]? = some (.inl (false, n0, g0))) (hq1 : h[q1]? = some (.inl (false, n1, g1))) {sp dp nn : Int32} (hc : (¬ sp < 0 ∧ ¬ dp < 0 ∧ ¬ nn < 0) ∧ sp.toNatClampNeg + nn.toNatClampNeg ≤ n0 ∧ dp.toNatClampNeg + nn.toNatClampNeg ≤ n1) (hd : 1 ≤ d) (hr : r.length ≤ 8)
    (kk : dp_W d M al h0 mc ms post k n (pc + 3, L, r, h.set q1 (.inl (false, n1, va_cpy g0 g1 sp.toNatClampNeg dp.toNatClampNeg nn.toNatClampNeg)))) : dp_W d M al h0 mc ms post k n (pc, L, .inl nn :: .inl dp :: .inr (some q1) :: .inl sp :: .inr (some q0) :: r, h) := by
  obtain ⟨hdc, hlen, -⟩ := dp_X_of hM ht
  dsimp only at hdc hlen
  obtain rfl := dp_lenE hlen rfl
  intro p l e s m args below meth c D cI cZ b E ha H locs ls u2 u3 u4 u5
  have E0 := E
  obtain ⟨hx, hb, hml, -, -, -, hown, hts, hnw, hK⟩ := E0
  have e0 : (dp_ws cI cZ b h)[q0]? = some (b + q0, .inl (cI, n0, .inl g0)) := dp_ws_at hq0
  have e1 : (dp_ws cI cZ b h)[q1]? = some (b + q1, .inl (cI, n1, .inl g1)) := dp_ws_at hq1
  have hw : (dp_ws cI cZ b h).set q1 (b + q1, .inl (cI, n1, .inl (va_cpy g0 g1 sp.toNatClampNeg dp.toNatClampNeg nn.toNatClampNeg))) = dp_ws cI cZ b (h.set q1 (.inl (false, n1, va_cpy g0 g1 sp.toNatClampNeg dp.toNatClampNeg nn.toNatClampNeg))) := dp_ws_set q1 (.inl (false, n1, _))
  refine va_copyi (ty := .int) (rest := r.map (dp_cv b)) hx hb (by rw [hml]; exact u5.1.1.symm) hown (hts _ h1) (hts _ h2) (hts _ h3) (hts _ h4) hK u2 u3 u4 q0 q1 0 0 e0 e1 rfl rfl rfl hc.1.1 hc.1.2.1 hc.1.2.2 hc.2.1 hc.2.2 (fun _ _ => rfl) hd (by
    rw [dp_catsum]
    show r.length + (7 + 11) ≤ 40 * d
    omega) hdc (fun H1 locs1 w1 w2 w3 => ?_)
  rw [hw] at w1 w2
  exact kk p l e s m args below meth c D cI cZ b E ha H1 locs1 ls w1 w2 w3 u5
end DC
