/-! ===== 80: the law: its calls, its loop ===== -/
theorem ll_X5_net : dp_Lv "NearLiarsLaw" 13 yX5_net := ⟨dq_273, dq_274, dq_275, dq_39⟩
theorem ll_X6_net : dp_Lv "NearLiarsLaw" 17 yX6_net := ⟨dq_669, dq_670, dq_671, dq_47⟩
theorem ll_X5_grid : dp_Lv "NearLiarsLaw" 18 yX5_grid := ⟨dq_294, dq_295, dq_296, dq_39⟩
theorem ll_X6_grid : dp_Lv "NearLiarsLaw" 22 yX6_grid := ⟨dq_684, dq_685, dq_686, dq_47⟩
theorem ll_X5_edge : dp_Lv "NearLiarsLaw" 23 yX5_edge := ⟨dq_298, dq_299, dq_300, dq_39⟩
theorem ll_X6_edge : dp_Lv "NearLiarsLaw" 26 yX6_edge := ⟨dq_688, dq_689, dq_690, dq_47⟩
theorem ll_X5_neighbours : dp_Lv "NearLiarsLaw" 27 yX5_neighbours := ⟨dq_311, dq_312, dq_313, dq_39⟩
theorem ll_X6_neighbours : dp_Lv "NearLiarsLaw" 30 yX6_neighbours := ⟨dq_696, dq_697, dq_698, dq_47⟩
theorem ll_X5_dealer : dp_Lv "NearLiarsLaw" 31 yX5_dealer := ⟨dq_315, dq_316, dq_317, dq_39⟩
theorem ll_X6_dealer : dp_Lv "NearLiarsLaw" 35 yX6_dealer := ⟨dq_700, dq_701, dq_702, dq_47⟩
theorem ll_X5_need : dp_Lv "NearLiarsLaw" 36 yX5_need := ⟨dq_322, dq_323, dq_324, dq_39⟩
theorem ll_X6_need : dp_Lv "NearLiarsLaw" 39 yX6_need := ⟨dq_704, dq_705, dq_706, dq_47⟩
theorem ll_X5_lie : dp_Lv "NearLiarsLaw" 40 yX5_lie := ⟨dq_326, dq_327, dq_328, dq_39⟩
theorem ll_X6_lie : dp_Lv "NearLiarsLaw" 43 yX6_lie := ⟨dq_708, dq_709, dq_710, dq_47⟩
theorem ll_X5_begin : dp_Lv "NearLiarsLaw" 44 yX5_begin := ⟨dq_330, dq_331, dq_332, dq_39⟩
theorem ll_X6_begin : dp_Lv "NearLiarsLaw" 48 yX6_begin := ⟨dq_712, dq_713, dq_714, dq_47⟩
theorem ll_X5_ticks : dp_Lv "NearLiarsLaw" 49 yX5_ticks := ⟨dq_334, dq_335, dq_336, dq_39⟩
theorem ll_X6_ticks : dp_Lv "NearLiarsLaw" 52 yX6_ticks := ⟨dq_716, dq_717, dq_718, dq_47⟩
theorem ll_X5_node : dp_Lv "NearLiarsLaw" 53 yX5_node := ⟨dq_355, dq_356, dq_357, dq_39⟩
theorem ll_X6_node : dp_Lv "NearLiarsLaw" 56 yX6_node := ⟨dq_739, dq_740, dq_741, dq_47⟩
theorem ll_X5_band : dp_Lv "NearLiarsLaw" 57 yX5_band := ⟨dq_364, dq_365, dq_366, dq_39⟩
theorem ll_X6_band : dp_Lv "NearLiarsLaw" 60 yX6_band := ⟨dq_747, dq_748, dq_749, dq_47⟩
theorem ll_X5_sort : dp_Lv "NearLiarsLaw" 61 yX5_sort := ⟨dq_394, dq_395, dq_396, dq_39⟩
theorem ll_X6_sort : dp_Lv "NearLiarsLaw" 64 yX6_sort := ⟨dq_759, dq_760, dq_761, dq_47⟩
theorem ll_X5_crowded : dp_Lv "NearLiarsLaw" 65 yX5_crowded := ⟨dq_427, dq_428, dq_429, dq_39⟩
theorem ll_X6_crowded : dp_Lv "NearLiarsLaw" 68 yX6_crowded := ⟨dq_779, dq_780, dq_781, dq_47⟩
theorem ll_X5_reached : dp_Lv "NearLiarsLaw" 69 yX5_reached := ⟨dq_432, dq_433, dq_434, dq_39⟩
theorem ll_X6_reached : dp_Lv "NearLiarsLaw" 72 yX6_reached := ⟨dq_783, dq_784, dq_785, dq_47⟩
theorem ll_X5_worst : dp_Lv "NearLiarsLaw" 73 yX5_worst := ⟨dq_437, dq_438, dq_439, dq_39⟩
theorem ll_X6_worst : dp_Lv "NearLiarsLaw" 76 yX6_worst := ⟨dq_787, dq_788, dq_789, dq_47⟩
theorem ll_X5_bears : dp_Lv "NearLiarsLaw" 77 yX5_bears := ⟨dq_454, dq_455, dq_456, dq_39⟩
theorem ll_X6_bears : dp_Lv "NearLiarsLaw" 80 yX6_bears := ⟨dq_795, dq_796, dq_797, dq_47⟩
theorem ll_X5_name : dp_Lv "NearLiarsLaw" 81 yX5_name := ⟨dq_465, dq_466, dq_467, dq_39⟩
theorem ll_X6_name : dp_Lv "NearLiarsLaw" 84 yX6_name := ⟨dq_799, dq_800, dq_801, dq_47⟩
theorem ll_X5_named : dp_Lv "NearLiarsLaw" 85 yX5_named := ⟨dq_476, dq_477, dq_478, dq_39⟩
theorem ll_X6_named : dp_Lv "NearLiarsLaw" 88 yX6_named := ⟨dq_803, dq_804, dq_805, dq_47⟩
theorem ll_X5_walk : dp_Lv "NearLiarsLaw" 89 yX5_walk := ⟨dq_480, dq_481, dq_482, dq_39⟩
theorem ll_X6_walk : dp_Lv "NearLiarsLaw" 92 yX6_walk := ⟨dq_807, dq_808, dq_809, dq_47⟩
theorem ll_X5_tell : dp_Lv "NearLiarsLaw" 93 yX5_tell := ⟨dq_494, dq_495, dq_496, dq_39⟩
theorem ll_X6_tell : dp_Lv "NearLiarsLaw" 96 yX6_tell := ⟨dq_815, dq_816, dq_817, dq_47⟩
theorem ll_X5_drop : dp_Lv "NearLiarsLaw" 97 yX5_drop := ⟨dq_515, dq_516, dq_517, dq_39⟩
theorem ll_X6_drop : dp_Lv "NearLiarsLaw" 100 yX6_drop := ⟨dq_827, dq_828, dq_829, dq_47⟩
theorem ll_X5_claim : dp_Lv "NearLiarsLaw" 101 yX5_claim := ⟨dq_520, dq_521, dq_522, dq_39⟩
theorem ll_X6_claim : dp_Lv "NearLiarsLaw" 104 yX6_claim := ⟨dq_831, dq_832, dq_833, dq_47⟩
theorem ll_X5_proof : dp_Lv "NearLiarsLaw" 105 yX5_proof := ⟨dq_528, dq_529, dq_530, dq_39⟩
theorem ll_X6_proof : dp_Lv "NearLiarsLaw" 108 yX6_proof := ⟨dq_839, dq_840, dq_841, dq_47⟩
theorem ll_X5_believes : dp_Lv "NearLiarsLaw" 109 yX5_believes := ⟨dq_546, dq_547, dq_548, dq_39⟩
theorem ll_X6_believes : dp_Lv "NearLiarsLaw" 112 yX6_believes := ⟨dq_851, dq_852, dq_853, dq_47⟩
theorem ll_X5_many : dp_Lv "NearLiarsLaw" 113 yX5_many := ⟨dq_555, dq_556, dq_557, dq_39⟩
theorem ll_X6_many : dp_Lv "NearLiarsLaw" 116 yX6_many := ⟨dq_855, dq_856, dq_857, dq_47⟩
theorem ll_X5_init : dp_Li "NearLiarsLaw" 9 yX5_init := ⟨dq_52, dq_53, dq_39, rfl⟩
theorem ll_X6_init : dp_Li "NearLiarsLaw" 12 yX6_init := ⟨dq_566, dq_567, dq_47, rfl⟩
def R_law : String := "NearLiarsLaw"
def lw_P (b : Addr) (xs : List Int32) (args : Array Value) (s : State) : Prop := args = #[.ref b] ∧ s.IntsAt b xs ∧ xs.length ≤ 2048 ∧ (Jvm.Cond.and given_1 narrow_1).before args s = true
def lw_Q (_ : Array Value) (s : State) (o : Outcome) (t : State) : Prop := o = .returned (some (.int 1)) ∧ Framed s o t [] 32 565
def lw_Z (below : List Frame) (a : Array Value) (s : State) : State → Prop := fun t => ∃ o, t.status = .running ∧ Ended t below o ∧ lw_Q a s o t
/-- the law's own end, with 1 on the stack, nothing written that was there before, its room as the claim has it -/
theorem lw_ret {p : Program} {l : Launch} {e : Env} {s : State} {m : MethodId} {below : List Frame} {meth : Method} {c : Code} {b : Nat} (hx : p.tables.exec = Jvm.exec) (hb : c.code = code) (hr : meth.sig.returnType = ret) (hlocks : meth.locks = false) {pc : Nat} {H : Heap} {ls : Array Slot} (hdg : decode code pc = .ok (.ireturn, 1)) : W p l e room_1 s m #[Value.ref b] below meth c H [] 32 565 (lw_Z below #[Value.ref b] s) (F0 m pc ls [.int 1]) := by
  intro T hT X
  obtain ⟨fs, hret, hrun, hended, hW, hframe⟩ := X.leave (v := some (.int 1)) (hlocks := hlocks) (fun h => by rw [hr] at h; cases h)
  have hmeth' : T.vm.method? m = some meth := X.method'
  refine ⟨T.setFrames fs, ?_, .returned (some (.int 1)), hrun, hended, rfl, ⟨_, rfl⟩, hW, hframe⟩
  jvm_step X.here [X.here.top, hx, hb, hdg, hmeth', hr, ret, narrow_b1]
  (try refine ⟨rfl, ?_⟩); (try refine ⟨rfl, ?_⟩)
  first | (intro acts; rw [hret _ acts rfl rfl rfl]) | rw [hret _ _ rfl rfl rfl]
  exact Steps.refl _
/-- what holds at the law's entry: the machine, the code, the tables' words (any of lw_tbl by 'hts w (by decide +kernel)'), the script of L ints xs at the cell b, what the Statement gives of the start (any of its parts by flat_of_before) -/
def lw_At (p : Program) (s : State) (m : MethodId) (meth : Method) (c : Code) (b L : Nat) (xs : Nat → Int32) : Prop :=
  p.tables.exec = Jvm.exec ∧ c.code = code ∧ meth.sig.returnType = ret ∧ c.maxLocals = 4 ∧ s.vm.findClass R_law = some m.cls ∧ (∀ w ∈ lw_tbl, w.before #[Value.ref b] s = true) ∧ va_X b L xs s s.heap ∧ b < s.heap.size ∧ meth.locks = false ∧ (Jvm.Cond.and given_1 narrow_1).before #[Value.ref b] s = true

def lw_I (D : va_G) (cI cZ : ClassId) (s : State) (σ μ : dp_Z) (H : Heap) (locs : List Loc) : Prop := va_P D vwCl (dp_ws cI cZ s.heap.size (hX σ)) H ∧ va_P D vwCl (dp_ws cI cZ (s.heap.size + 19) (hM μ)) H ∧ va_S (fun q => s.heap.size ≤ q) s.heap H locs
section LW
variable {p : Program} {l : Launch} {e : Env} {s : State} {m : MethodId} {args : Array Value} {below : List Frame} {meth : Method} {c : Code} {D : va_G} {cI cZ : ClassId} {Q : State → Prop} {k n mc ms : Nat} {H : Heap} {locs : List Loc} {h h1 : dp_H} {ls : Array Slot} {cc : ByteArray} {nL d pc idx bs : Nat} {own : String} {N : dp_M} {as : List dp_V} {rv : Option dp_V} {rest st : List Value}
theorem lw_aft {a : Array Value} (hr : va_Run p l e room_1 s m args below meth c H locs k n mc ms (F0 m pc ls st) rest (dp_Q D cI cZ bs h H.size (dp_R rv h1) a) (va_A (dp_ws cI cZ bs h) H.size)) (hbs : s.heap.size ≤ bs) (hS : va_S (fun q => s.heap.size ≤ q) s.heap H locs)
    (kk : ∀ (H1 : Heap) (locs1 : List Loc), va_P D vwCl (dp_ws cI cZ bs h1) H1 → (∀ q : Nat, q < H.size → ¬ va_A (dp_ws cI cZ bs h) H.size q → H1[q]? = H[q]?) → va_S (fun q => s.heap.size ≤ q) s.heap H1 locs1 → W p l e room_1 s m args below meth c H1 locs1 (k + mc) (n + ms) Q (F0 m (pc + 3) ls ((rv.map (dp_cv bs)).toList ++ rest))) : W p l e room_1 s m args below meth c H locs k n Q (F0 m pc ls st) := by
  have hF : ∀ q, va_A (dp_ws cI cZ bs h) H.size q → s.heap.size ≤ q := by
    intro q hq
    rcases hq with ⟨j, x, hj⟩ | hq
    · obtain ⟨w, -, e1⟩ := dp_ws_inv hj
      have e2 : q = bs + j := congrArg Prod.fst e1
      omega
    · exact Nat.le_trans hS.1 hq
  intro T hT X
  obtain ⟨v, st₀, t, T', L1, g0, X', hL, e1, e2, ⟨⟨rv1, h', hv, hp, hP', hD'⟩, hz, hk⟩, st1⟩ := hr T hT X
  obtain ⟨rfl, rfl⟩ := hp
  have hv' : v = rv1.map (dp_cv bs) := by cases hv; rfl
  subst hv'
  rw [g0] at hz hk
  have hS2 : va_S (fun q => s.heap.size ≤ q) s.heap T'.heap (locs ++ L1) := by
    refine ⟨Nat.le_trans hS.1 (by rw [e1]; exact hz), fun q z1 z2 => ?_, fun q hq => ?_⟩
    · rw [e1, hk q (Nat.lt_of_lt_of_le z1 hS.1) (fun z => z2 (hF q z))]
      exact hS.2.1 q z1 z2
    · rcases List.mem_append.mp hq with z | z
      · exact hS.2.2 q z
      · exact hF _ (hL q z)
  obtain ⟨t2, a1, b1⟩ := kk T'.heap (locs ++ L1) (by rw [e1]; exact hP') (fun q z1 z2 => by rw [e1]; exact hk q z1 z2) hS2 T' rfl X'
  exact ⟨t2, st1 t2 a1, b1⟩
theorem lw_call (S : CallFix p m c cc nL s args dp_g own) (hnw : ∀ w ∈ dp_nw, va_Nw w s) (hK : va_K D vwCl [(cI, .int), (cZ, .boolean)] s) (hN : dp_ok N) (hlk : dp_Lv own idx N.2.1) (hnp : dp_np N.2.1 as.length) (hC : dp_C d N false (.inr (some 0) :: as) h 0 0 (dp_R rv h1))
    {ci : Nat} {fs : List dp_V} {C : vw_C} (hq : h[0]? = some (.inr (ci, fs))) (hc : vwCl[ci]? = some C) (hc2 : C.1 = N.1) (hd : d ≤ 7) (hP : va_P D vwCl (dp_ws cI cZ bs h) H) (hbs : s.heap.size ≤ bs) (hS : va_S (fun q => s.heap.size ≤ q) s.heap H locs) (hls : ls.size = nL) (hr : (rest.map fun v => v.category).sum ≤ 8) (hdg : decode cc pc = .ok (.invokevirtual idx, 3)) (hst : st = (as.map (dp_cv bs)).reverse ++ .ref bs :: rest)
    (kk : ∀ (H1 : Heap) (locs1 : List Loc), va_P D vwCl (dp_ws cI cZ bs h1) H1 → (∀ q : Nat, q < H.size → ¬ va_A (dp_ws cI cZ bs h) H.size q → H1[q]? = H[q]?) → va_S (fun q => s.heap.size ≤ q) s.heap H1 locs1 → W p l e room_1 s m args below meth c H1 locs1 32 565 Q (F0 m (pc + 3) ls ((rv.map (dp_cv bs)).toList ++ rest))) : W p l e room_1 s m args below meth c H locs 32 565 Q (F0 m pc ls st) := by
  subst hst
  have hts := S.2.2.2.2
  refine lw_aft (va_runV (As := as.map (dp_cv bs)) (b := bs) (C := N.1) S (hC l D cI cZ bs H.size) ⟨callB_of as.length hts (dp_good hN) rfl rfl rfl (hts _ hlk.2.2.2) (hts _ hlk.1) (dp_hd hN hnp) ⟨?_, ?_⟩, hts _ hlk.2.1, hN.2.1 ▸ hts _ hlk.2.2.1⟩
      ⟨dp_blind, hc2 ▸ va_recv hK hP hc (dp_ws_at hq), fun U hU hW => ⟨rfl, by rw [hU], (fun z => by cases z), by rw [hU]; exact hP, va_K.moved hW.alike hK, fun w hw => dp_nw_warm hw hW (hnw w hw)⟩⟩
      rfl (by rw [List.length_map]) hls rfl (lv_room hr) hdg ⟨Nat.le_of_ble_eq_true rfl, Nat.le_of_ble_eq_true rfl⟩) hbs hS kk
  · show d + 1 ≤ 10
    omega
  · have := hN.2.2.2.2.2.2
    show 8 + (N.2.2.2.1 + 11) + 40 * d ≤ 360
    omega
theorem lw_ctor (S : CallFix p m c cc nL s args dp_g own) (hnw : ∀ w ∈ dp_nw, va_Nw w s) (hK : va_K D vwCl [(cI, .int), (cZ, .boolean)] s) (hN : dp_ok N) (hNr : N.2.2.2.2.1 = none) (hlk : dp_Li own idx N.2.1) (hnp : dp_np N.2.1 0) (hC : dp_C d N true [.inr (some 0)] h mc ms (dp_R none h1))
    (hd : d ≤ 7) (hP : va_P D vwCl (dp_ws cI cZ bs h) H) (hsz : H.size = bs + h.length) (hbs : s.heap.size ≤ bs) (hS : va_S (fun q => s.heap.size ≤ q) s.heap H locs) (hls : ls.size = nL) (hr : (rest.map fun v => v.category).sum ≤ 8) (hdg : decode cc pc = .ok (.invokespecial idx, 3)) (hk : k + mc ≤ 32) (hn : n + ms ≤ 565)
    (kk : ∀ (H1 : Heap) (locs1 : List Loc), va_P D vwCl (dp_ws cI cZ bs h1) H1 → (∀ q : Nat, q < H.size → ¬ va_A (dp_ws cI cZ bs h) H.size q → H1[q]? = H[q]?) → va_S (fun q => s.heap.size ≤ q) s.heap H1 locs1 → W p l e room_1 s m args below meth c H1 locs1 (k + mc) (n + ms) Q (F0 m (pc + 3) ls rest)) : W p l e room_1 s m args below meth c H locs k n Q (F0 m pc ls (.ref bs :: rest)) := by
  have hts := S.2.2.2.2
  refine lw_aft (va_runI (As := []) (b := bs) S (hC l D cI cZ bs H.size) ⟨hNr ▸ callB_of 0 hts (dp_good hN) rfl rfl rfl (hts _ hlk.2.2.1) (hts _ hlk.1) (dp_hd hN hnp) ⟨?_, ?_⟩, hlk.2.2.2, hts _ hlk.2.1⟩
      ⟨dp_blind, fun U hU hW => ⟨rfl, by rw [hU], (fun z => hsz), by rw [hU]; exact hP, va_K.moved hW.alike hK, fun w hw => dp_nw_warm hw hW (hnw w hw)⟩⟩
      rfl rfl hls rfl (lv_room hr) hdg ⟨hk, hn⟩) hbs hS kk
  · show d + 1 ≤ 10
    omega
  · have := hN.2.2.2.2.2.2
    show 8 + (N.2.2.2.1 + 11) + 40 * d ≤ 360
    omega
theorem lw_keep {h2 : dp_H} {b2 : Nat} {H1 : Heap} (hP : va_P D vwCl (dp_ws cI cZ b2 h2) H) (hk : ∀ q : Nat, q < H.size → ¬ va_A (dp_ws cI cZ bs h) H.size q → H1[q]? = H[q]?) (ha : ∀ i j, i < h2.length → j < h.length → b2 + i ≠ bs + j) : va_P D vwCl (dp_ws cI cZ b2 h2) H1 := by
  refine hP.kept (fun j x hx => ?_)
  have hlt := (hP j x hx).lt
  obtain ⟨q, hq, rfl⟩ := dp_ws_inv hx
  refine hk _ hlt (fun z => ?_)
  rcases z with ⟨i, y, hi⟩ | z
  · obtain ⟨w, hw, e1⟩ := dp_ws_inv hi
    exact ha j i (List.getElem?_eq_some_iff.mp hq).1 (List.getElem?_eq_some_iff.mp hw).1 (congrArg Prod.fst e1)
  · exact absurd hlt (Nat.not_lt.mpr z)
variable {σ σ' μ μ' : dp_Z} {r : Int32}
theorem lw_cX (S : CallFix p m c cc nL s args dp_g own) (hnw : ∀ w ∈ dp_nw, va_Nw w s) (hK : va_K D vwCl [(cI, .int), (cZ, .boolean)] s) (hN : dp_ok N) (hlk : dp_Lv own idx N.2.1) (hnp : dp_np N.2.1 as.length) (hC : dp_C d N false (.inr (some 0) :: as) (hX σ) 0 0 (dp_R (some (.inl r)) (hX σ'))) (hc2 : RX5 = N.1) (hd : d ≤ 7) (hI : lw_I D cI cZ s σ μ H locs) (hls : ls.size = nL) (hr : (rest.map fun v => v.category).sum ≤ 8) (hdg : decode cc pc = .ok (.invokevirtual idx, 3)) (hst : st = (as.map (dp_cv s.heap.size)).reverse ++ .ref s.heap.size :: rest)
    (kk : ∀ (H1 : Heap) (locs1 : List Loc), lw_I D cI cZ s σ' μ H1 locs1 → W p l e room_1 s m args below meth c H1 locs1 32 565 Q (F0 m (pc + 3) ls (.int r :: rest))) : W p l e room_1 s m args below meth c H locs 32 565 Q (F0 m pc ls st) := by
  obtain ⟨h1, h2, h3⟩ := hI
  refine lw_call S hnw hK hN hlk hnp hC rfl (C := (RX5, TX5, 5)) rfl hc2 hd h1 (Nat.le_refl _) h3 hls hr hdg hst (fun H1 locs1 g1 g2 g3 => kk H1 locs1 ⟨g1, lw_keep h2 g2 (fun i j hi hj => ?_), g3⟩)
  have : j < 19 := hj
  omega
theorem lw_cM (S : CallFix p m c cc nL s args dp_g own) (hnw : ∀ w ∈ dp_nw, va_Nw w s) (hK : va_K D vwCl [(cI, .int), (cZ, .boolean)] s) (hN : dp_ok N) (hlk : dp_Lv own idx N.2.1) (hnp : dp_np N.2.1 as.length) (hC : dp_C d N false (.inr (some 0) :: as) (hM μ) 0 0 (dp_R (some (.inl r)) (hM μ'))) (hc2 : RX6 = N.1) (hd : d ≤ 7) (hI : lw_I D cI cZ s σ μ H locs) (hls : ls.size = nL) (hr : (rest.map fun v => v.category).sum ≤ 8) (hdg : decode cc pc = .ok (.invokevirtual idx, 3)) (hst : st = (as.map (dp_cv (s.heap.size + 19))).reverse ++ .ref (s.heap.size + 19) :: rest)
    (kk : ∀ (H1 : Heap) (locs1 : List Loc), lw_I D cI cZ s σ μ' H1 locs1 → W p l e room_1 s m args below meth c H1 locs1 32 565 Q (F0 m (pc + 3) ls (.int r :: rest))) : W p l e room_1 s m args below meth c H locs 32 565 Q (F0 m pc ls st) := by
  obtain ⟨h1, h2, h3⟩ := hI
  refine lw_call S hnw hK hN hlk hnp hC rfl (C := (RX6, TX6, 26)) rfl hc2 hd h2 (by omega) h3 hls hr hdg hst (fun H1 locs1 g1 g2 g3 => kk H1 locs1 ⟨lw_keep h1 g2 (fun i j hi hj => ?_), g1, g3⟩)
  have : i < 19 := hi
  omega
end LW
theorem lw_lt {L i : Nat} (hL : L ≤ 2048) (hi : i ≤ 2052) (h : ¬ (Int32.ofNat L - 4 < nI i)) : i + 4 ≤ L := by
  rw [Int32.lt_iff_toInt_lt] at h
  have e1 : (nI i).toInt = (i : Int) := nI_toInt (by omega)
  have e2 : (Int32.ofNat L - 4).toInt = (L : Int) - 4 := by
    have := pk_sub_toInt (a := L) (b := 4) (by omega) (by omega)
    exact this
  omega
theorem lw_in {L i j : Nat} (hL : L ≤ 2048) (h : i + 4 ≤ L) (hj : j < 4) : vp_in (nI i + nI j) L := by
  rw [nI_add]
  exact vp_in_nI (by omega) (by omega)

set_option maxHeartbeats 8000000 in
set_option maxRecDepth 100000 in
theorem law_loop {R : dp_Z → dp_Z → Prop} (hsim : lw_sim R) {p : Program} {l : Launch} {e : Env} {s : State} {m : MethodId} {below : List Frame} {meth : Method} {c : Code} {b L : Nat} {xs : Nat → Int32} (hL : L ≤ 2048) (C0 : lw_At p s m meth c b L xs) {D : va_G} {cI cZ : ClassId} (hK : va_K D vwCl [(cI, .int), (cZ, .boolean)] s) :
    ∀ (n i : Nat), i ≤ 2052 → L + 4 - i < n → ∀ (σ μ : dp_Z) (H : Heap) (locs : List Loc) (ls : Array Slot), R σ μ → lw_I D cI cZ s σ μ H locs → lv_has ls 4 [(3, .int (nI i)), (2, .ref (s.heap.size + 19)), (1, .ref s.heap.size), (0, .ref b)] → W p l e room_1 s m #[Value.ref b] below meth c H locs 32 565 (lw_Z below #[Value.ref b] s) (F0 m 18 ls []) := by
  obtain ⟨hx, hb, hr, hml, hown, hts0, hX, hbl, hlocks, hgv⟩ := id C0
  have hts : ∀ w ∈ dp_g, w.before #[Value.ref b] s = true := fun w hw => hts0 w (List.mem_filter.mp hw).1
  have hnw : ∀ w ∈ dp_nw, va_Nw w s := fun w hw => by
    have h1 := hts0 w (List.mem_filter.mp hw).1
    have hi := (List.mem_filter.mp hw).2
    cases w <;> first | exact va_Nw.of rfl h1 | cases hi
  have hbA : ¬ (fun q : Nat => s.heap.size ≤ q) b := Nat.not_le.mpr hbl
  have S : CallFix p m c code 4 s #[Value.ref b] dp_g "NearLiarsLaw" := ⟨hx, hb, hml, hown, hts⟩
  intro n
  induction n with
  | zero => intro i _ h; omega
  | succ n ih =>
  intro i hi hn σ μ H locs ls hR hI hl
  have hls : ls.size = 4 := hl.1
  refine lv_iload_n hx hb dL_18 rfl (lv_at hl 0 rfl) ?_
  refine lv_aload_n hx hb dL_19 rfl (lv_at hl 3 rfl) ?_
  refine va_slen hx hb hX hbl hbA hI.2.2 dL_20 ?_
  refine lv_iconst (v := 4) hx hb dL_21 (by decide) ?_
  refine lv_isub hx hb dL_22 ?_
  refine lv_icmp_gt (tgt := 799) hx hb dL_23 (by decide) (fun _ => ?_) (fun hc => ?_)
  · refine va_forget hI.2.2.2.2 ?_
    refine lv_iconst (v := 1) hx hb dL_799 (by decide) ?_
    exact lw_ret hx hb hr hlocks dL_800
  have hlt : i + 4 ≤ L := lw_lt hL hi hc
  have hin0 : vp_in (nI i) L := vp_in_nI (by omega) (by omega)
  have hin1 : vp_in (nI i + 1) L := lw_in (j := 1) hL hlt (by decide)
  have hin2 : vp_in (nI i + 2) L := lw_in (j := 2) hL hlt (by decide)
  have hin3 : vp_in (nI i + 3) L := lw_in (j := 3) hL hlt (by decide)
  have hend : ∀ (σ μ : dp_Z) (H : Heap) (locs : List Loc), R σ μ → lw_I D cI cZ s σ μ H locs → W p l e room_1 s m #[Value.ref b] below meth c H locs 32 565 (lw_Z below #[Value.ref b] s) (F0 m 793 ls []) := by
    intro σ μ H locs hR hI
    refine lv_iinc (v := nI (i + 4)) (lv' := [(3, .int (nI (i + 4))), (2, .ref (s.heap.size + 19)), (1, .ref s.heap.size), (0, .ref b)]) hx hb dL_793 hl (k := 0) rfl (by rw [show Int32.ofInt 4 = nI 4 from by decide, nI_add]) (by decide) rfl (fun ls' hl' => ?_)
    refine lv_goto (tgt := 18) hx hb dL_796 (by decide) ?_
    exact ih (i + 4) (by omega) (by omega) σ μ H locs ls' hR hI hl'
  refine lv_aload_n hx hb dL_26 rfl (lv_at hl 3 rfl) ?_
  refine lv_iload_n hx hb dL_27 rfl (lv_at hl 0 rfl) ?_
  refine va_sld hx hb hX hbl hbA hI.2.2 hin0 dL_28 ?_
  refine lv_bipush (v := 31) hx hb dL_29 (by decide) ?_
  refine lv_iand hx hb dL_31 ?_
  obtain ⟨j, hj, ej⟩ := pk_andE (xs (nI i).toNatClampNeg) (m := 31) 5 (by decide)
  rw [ej]
  generalize ha : xs (nI i + 1).toNatClampNeg = a1
  generalize hb2 : xs (nI i + 2).toNatClampNeg = a2
  generalize hc3 : xs (nI i + 3).toNatClampNeg = a3
  rcases (show j = 0 ∨ j = 1 ∨ j = 2 ∨ j = 3 ∨ j = 4 ∨ j = 5 ∨ j = 6 ∨ j = 7 ∨ j = 8 ∨ j = 9 ∨ j = 10 ∨ j = 11 ∨ j = 12 ∨ j = 13 ∨ j = 14 ∨ j = 15 ∨ j = 16 ∨ j = 17 ∨ j = 18 ∨ j = 19 ∨ j = 20 ∨ j = 21 ∨ j = 22 ∨ j = 23 ∨ j = 24 ∨ 25 ≤ j by omega) with rfl | rfl | rfl | rfl | rfl | rfl | rfl | rfl | rfl | rfl | rfl | rfl | rfl | rfl | rfl | rfl | rfl | rfl | rfl | rfl | rfl | rfl | rfl | rfl | rfl | hj25
  · refine lv_tableIn (tgt := 148) hx hb dL_32 (by decide) (by decide) rfl (by decide) ?_
    obtain ⟨r, σ', μ', e1, e2, hR'⟩ := hsim σ μ hR 0 a1 a2 a3 (by decide)
    have f1 : j_X5_net σ a1 = some (r, σ') := e1
    have f2 : j_X6_net μ a1 = some (r, μ') := e2
    refine lv_aload_n hx hb dL_148 rfl (lv_at hl 2 rfl) ?_
    refine lv_aload_n hx hb dL_149 rfl (lv_at hl 3 rfl) ?_
    refine lv_iload_n hx hb dL_150 rfl (lv_at hl 0 rfl) ?_
    refine lv_iconst (v := 1) hx hb dL_151 (by decide) ?_
    refine lv_iadd hx hb dL_152 ?_
    refine va_sld hx hb hX hbl hbA hI.2.2 hin1 dL_153 ?_
    rw [ha]
    refine lw_cX (as := [.inl a1]) (rest := []) S hnw hK okX5_net ll_X5_net npX5_net (c_X5_net σ a1 (r, σ') f1) rfl (Nat.le_of_ble_eq_true rfl) hI hls (Nat.le_of_ble_eq_true rfl) dL_154 rfl (fun H locs hI => ?_)
    refine lv_aload_n hx hb dL_157 rfl (lv_at hl 1 rfl) ?_
    refine lv_aload_n hx hb dL_158 rfl (lv_at hl 3 rfl) ?_
    refine lv_iload_n hx hb dL_159 rfl (lv_at hl 0 rfl) ?_
    refine lv_iconst (v := 1) hx hb dL_160 (by decide) ?_
    refine lv_iadd hx hb dL_161 ?_
    refine va_sld hx hb hX hbl hbA hI.2.2 hin1 dL_162 ?_
    rw [ha]
    refine lw_cM (as := [.inl a1]) (rest := [.int _]) S hnw hK okX6_net ll_X6_net npX6_net (c_X6_net μ a1 (r, μ') f2) rfl (Nat.le_of_ble_eq_true rfl) hI hls (Nat.le_of_ble_eq_true rfl) dL_163 rfl (fun H locs hI => ?_)
    exact lv_icmp_eq (tgt := 793) hx hb dL_166 (by decide) (fun _ => hend _ _ H locs hR' hI) (fun z => absurd rfl z)
  · refine lv_tableIn (tgt := 171) hx hb dL_32 (by decide) (by decide) rfl (by decide) ?_
    obtain ⟨r, σ', μ', e1, e2, hR'⟩ := hsim σ μ hR 1 a1 a2 a3 (by decide)
    have f1 : j_X5_grid σ a1 a2 a3 = some (r, σ') := e1
    have f2 : j_X6_grid μ a1 a2 a3 = some (r, μ') := e2
    refine lv_aload_n hx hb dL_171 rfl (lv_at hl 2 rfl) ?_
    refine lv_aload_n hx hb dL_172 rfl (lv_at hl 3 rfl) ?_
    refine lv_iload_n hx hb dL_173 rfl (lv_at hl 0 rfl) ?_
    refine lv_iconst (v := 1) hx hb dL_174 (by decide) ?_
    refine lv_iadd hx hb dL_175 ?_
    refine va_sld hx hb hX hbl hbA hI.2.2 hin1 dL_176 ?_
    rw [ha]
    refine lv_aload_n hx hb dL_177 rfl (lv_at hl 3 rfl) ?_
    refine lv_iload_n hx hb dL_178 rfl (lv_at hl 0 rfl) ?_
    refine lv_iconst (v := 2) hx hb dL_179 (by decide) ?_
    refine lv_iadd hx hb dL_180 ?_
    refine va_sld hx hb hX hbl hbA hI.2.2 hin2 dL_181 ?_
    rw [hb2]
    refine lv_aload_n hx hb dL_182 rfl (lv_at hl 3 rfl) ?_
    refine lv_iload_n hx hb dL_183 rfl (lv_at hl 0 rfl) ?_
    refine lv_iconst (v := 3) hx hb dL_184 (by decide) ?_
    refine lv_iadd hx hb dL_185 ?_
    refine va_sld hx hb hX hbl hbA hI.2.2 hin3 dL_186 ?_
    rw [hc3]
    refine lw_cX (as := [.inl a1, .inl a2, .inl a3]) (rest := []) S hnw hK okX5_grid ll_X5_grid npX5_grid (c_X5_grid σ a1 a2 a3 (r, σ') f1) rfl (Nat.le_of_ble_eq_true rfl) hI hls (Nat.le_of_ble_eq_true rfl) dL_187 rfl (fun H locs hI => ?_)
    refine lv_aload_n hx hb dL_190 rfl (lv_at hl 1 rfl) ?_
    refine lv_aload_n hx hb dL_191 rfl (lv_at hl 3 rfl) ?_
    refine lv_iload_n hx hb dL_192 rfl (lv_at hl 0 rfl) ?_
    refine lv_iconst (v := 1) hx hb dL_193 (by decide) ?_
    refine lv_iadd hx hb dL_194 ?_
    refine va_sld hx hb hX hbl hbA hI.2.2 hin1 dL_195 ?_
    rw [ha]
    refine lv_aload_n hx hb dL_196 rfl (lv_at hl 3 rfl) ?_
    refine lv_iload_n hx hb dL_197 rfl (lv_at hl 0 rfl) ?_
    refine lv_iconst (v := 2) hx hb dL_198 (by decide) ?_
    refine lv_iadd hx hb dL_199 ?_
    refine va_sld hx hb hX hbl hbA hI.2.2 hin2 dL_200 ?_
    rw [hb2]
    refine lv_aload_n hx hb dL_201 rfl (lv_at hl 3 rfl) ?_
    refine lv_iload_n hx hb dL_202 rfl (lv_at hl 0 rfl) ?_
    refine lv_iconst (v := 3) hx hb dL_203 (by decide) ?_
    refine lv_iadd hx hb dL_204 ?_
    refine va_sld hx hb hX hbl hbA hI.2.2 hin3 dL_205 ?_
    rw [hc3]
    refine lw_cM (as := [.inl a1, .inl a2, .inl a3]) (rest := [.int _]) S hnw hK okX6_grid ll_X6_grid npX6_grid (c_X6_grid μ a1 a2 a3 (r, μ') f2) rfl (Nat.le_of_ble_eq_true rfl) hI hls (Nat.le_of_ble_eq_true rfl) dL_206 rfl (fun H locs hI => ?_)
    exact lv_icmp_eq (tgt := 793) hx hb dL_209 (by decide) (fun _ => hend _ _ H locs hR' hI) (fun z => absurd rfl z)
  · refine lv_tableIn (tgt := 214) hx hb dL_32 (by decide) (by decide) rfl (by decide) ?_
    obtain ⟨r, σ', μ', e1, e2, hR'⟩ := hsim σ μ hR 2 a1 a2 a3 (by decide)
    have f1 : j_X5_edge σ a1 a2 a3 = some (r, σ') := e1
    have f2 : j_X6_edge μ a1 a2 a3 = some (r, μ') := e2
    refine lv_aload_n hx hb dL_214 rfl (lv_at hl 2 rfl) ?_
    refine lv_aload_n hx hb dL_215 rfl (lv_at hl 3 rfl) ?_
    refine lv_iload_n hx hb dL_216 rfl (lv_at hl 0 rfl) ?_
    refine lv_iconst (v := 1) hx hb dL_217 (by decide) ?_
    refine lv_iadd hx hb dL_218 ?_
    refine va_sld hx hb hX hbl hbA hI.2.2 hin1 dL_219 ?_
    rw [ha]
    refine lv_aload_n hx hb dL_220 rfl (lv_at hl 3 rfl) ?_
    refine lv_iload_n hx hb dL_221 rfl (lv_at hl 0 rfl) ?_
    refine lv_iconst (v := 2) hx hb dL_222 (by decide) ?_
    refine lv_iadd hx hb dL_223 ?_
    refine va_sld hx hb hX hbl hbA hI.2.2 hin2 dL_224 ?_
    rw [hb2]
    refine lv_aload_n hx hb dL_225 rfl (lv_at hl 3 rfl) ?_
    refine lv_iload_n hx hb dL_226 rfl (lv_at hl 0 rfl) ?_
    refine lv_iconst (v := 3) hx hb dL_227 (by decide) ?_
    refine lv_iadd hx hb dL_228 ?_
    refine va_sld hx hb hX hbl hbA hI.2.2 hin3 dL_229 ?_
    rw [hc3]
    refine lw_cX (as := [.inl a1, .inl a2, .inl a3]) (rest := []) S hnw hK okX5_edge ll_X5_edge npX5_edge (c_X5_edge σ a1 a2 a3 (r, σ') f1) rfl (Nat.le_of_ble_eq_true rfl) hI hls (Nat.le_of_ble_eq_true rfl) dL_230 rfl (fun H locs hI => ?_)
    refine lv_aload_n hx hb dL_233 rfl (lv_at hl 1 rfl) ?_
    refine lv_aload_n hx hb dL_234 rfl (lv_at hl 3 rfl) ?_
    refine lv_iload_n hx hb dL_235 rfl (lv_at hl 0 rfl) ?_
    refine lv_iconst (v := 1) hx hb dL_236 (by decide) ?_
    refine lv_iadd hx hb dL_237 ?_
    refine va_sld hx hb hX hbl hbA hI.2.2 hin1 dL_238 ?_
    rw [ha]
    refine lv_aload_n hx hb dL_239 rfl (lv_at hl 3 rfl) ?_
    refine lv_iload_n hx hb dL_240 rfl (lv_at hl 0 rfl) ?_
    refine lv_iconst (v := 2) hx hb dL_241 (by decide) ?_
    refine lv_iadd hx hb dL_242 ?_
    refine va_sld hx hb hX hbl hbA hI.2.2 hin2 dL_243 ?_
    rw [hb2]
    refine lv_aload_n hx hb dL_244 rfl (lv_at hl 3 rfl) ?_
    refine lv_iload_n hx hb dL_245 rfl (lv_at hl 0 rfl) ?_
    refine lv_iconst (v := 3) hx hb dL_246 (by decide) ?_
    refine lv_iadd hx hb dL_247 ?_
    refine va_sld hx hb hX hbl hbA hI.2.2 hin3 dL_248 ?_
    rw [hc3]
    refine lw_cM (as := [.inl a1, .inl a2, .inl a3]) (rest := [.int _]) S hnw hK okX6_edge ll_X6_edge npX6_edge (c_X6_edge μ a1 a2 a3 (r, μ') f2) rfl (Nat.le_of_ble_eq_true rfl) hI hls (Nat.le_of_ble_eq_true rfl) dL_249 rfl (fun H locs hI => ?_)
    exact lv_icmp_eq (tgt := 793) hx hb dL_252 (by decide) (fun _ => hend _ _ H locs hR' hI) (fun z => absurd rfl z)
  · refine lv_tableIn (tgt := 257) hx hb dL_32 (by decide) (by decide) rfl (by decide) ?_
    obtain ⟨r, σ', μ', e1, e2, hR'⟩ := hsim σ μ hR 3 a1 a2 a3 (by decide)
    obtain ⟨r', f1, z⟩ := dp_bd_inv (show dp_bd (j_X5_neighbours σ a1) (fun r => some (r, σ)) = some (r, σ') from e1)
    cases z
    obtain ⟨r', f2, z⟩ := dp_bd_inv (show dp_bd (j_X6_neighbours μ a1) (fun r => some (r, μ)) = some (r, μ') from e2)
    cases z
    refine lv_aload_n hx hb dL_257 rfl (lv_at hl 2 rfl) ?_
    refine lv_aload_n hx hb dL_258 rfl (lv_at hl 3 rfl) ?_
    refine lv_iload_n hx hb dL_259 rfl (lv_at hl 0 rfl) ?_
    refine lv_iconst (v := 1) hx hb dL_260 (by decide) ?_
    refine lv_iadd hx hb dL_261 ?_
    refine va_sld hx hb hX hbl hbA hI.2.2 hin1 dL_262 ?_
    rw [ha]
    refine lw_cX (as := [.inl a1]) (rest := []) S hnw hK okX5_neighbours ll_X5_neighbours npX5_neighbours (c_X5_neighbours σ a1 _ f1) rfl (Nat.le_of_ble_eq_true rfl) hI hls (Nat.le_of_ble_eq_true rfl) dL_263 rfl (fun H locs hI => ?_)
    refine lv_aload_n hx hb dL_266 rfl (lv_at hl 1 rfl) ?_
    refine lv_aload_n hx hb dL_267 rfl (lv_at hl 3 rfl) ?_
    refine lv_iload_n hx hb dL_268 rfl (lv_at hl 0 rfl) ?_
    refine lv_iconst (v := 1) hx hb dL_269 (by decide) ?_
    refine lv_iadd hx hb dL_270 ?_
    refine va_sld hx hb hX hbl hbA hI.2.2 hin1 dL_271 ?_
    rw [ha]
    refine lw_cM (as := [.inl a1]) (rest := [.int _]) S hnw hK okX6_neighbours ll_X6_neighbours npX6_neighbours (c_X6_neighbours μ a1 _ f2) rfl (Nat.le_of_ble_eq_true rfl) hI hls (Nat.le_of_ble_eq_true rfl) dL_272 rfl (fun H locs hI => ?_)
    exact lv_icmp_eq (tgt := 793) hx hb dL_275 (by decide) (fun _ => hend _ _ H locs hR' hI) (fun z => absurd rfl z)
  · refine lv_tableIn (tgt := 280) hx hb dL_32 (by decide) (by decide) rfl (by decide) ?_
    obtain ⟨r, σ', μ', e1, e2, hR'⟩ := hsim σ μ hR 4 a1 a2 a3 (by decide)
    have f1 : j_X5_dealer σ a1 a2 = some (r, σ') := e1
    have f2 : j_X6_dealer μ a1 a2 = some (r, μ') := e2
    refine lv_aload_n hx hb dL_280 rfl (lv_at hl 2 rfl) ?_
    refine lv_aload_n hx hb dL_281 rfl (lv_at hl 3 rfl) ?_
    refine lv_iload_n hx hb dL_282 rfl (lv_at hl 0 rfl) ?_
    refine lv_iconst (v := 1) hx hb dL_283 (by decide) ?_
    refine lv_iadd hx hb dL_284 ?_
    refine va_sld hx hb hX hbl hbA hI.2.2 hin1 dL_285 ?_
    rw [ha]
    refine lv_aload_n hx hb dL_286 rfl (lv_at hl 3 rfl) ?_
    refine lv_iload_n hx hb dL_287 rfl (lv_at hl 0 rfl) ?_
    refine lv_iconst (v := 2) hx hb dL_288 (by decide) ?_
    refine lv_iadd hx hb dL_289 ?_
    refine va_sld hx hb hX hbl hbA hI.2.2 hin2 dL_290 ?_
    rw [hb2]
    refine lw_cX (as := [.inl a1, .inl a2]) (rest := []) S hnw hK okX5_dealer ll_X5_dealer npX5_dealer (c_X5_dealer σ a1 a2 (r, σ') f1) rfl (Nat.le_of_ble_eq_true rfl) hI hls (Nat.le_of_ble_eq_true rfl) dL_291 rfl (fun H locs hI => ?_)
    refine lv_aload_n hx hb dL_294 rfl (lv_at hl 1 rfl) ?_
    refine lv_aload_n hx hb dL_295 rfl (lv_at hl 3 rfl) ?_
    refine lv_iload_n hx hb dL_296 rfl (lv_at hl 0 rfl) ?_
    refine lv_iconst (v := 1) hx hb dL_297 (by decide) ?_
    refine lv_iadd hx hb dL_298 ?_
    refine va_sld hx hb hX hbl hbA hI.2.2 hin1 dL_299 ?_
    rw [ha]
    refine lv_aload_n hx hb dL_300 rfl (lv_at hl 3 rfl) ?_
    refine lv_iload_n hx hb dL_301 rfl (lv_at hl 0 rfl) ?_
    refine lv_iconst (v := 2) hx hb dL_302 (by decide) ?_
    refine lv_iadd hx hb dL_303 ?_
    refine va_sld hx hb hX hbl hbA hI.2.2 hin2 dL_304 ?_
    rw [hb2]
    refine lw_cM (as := [.inl a1, .inl a2]) (rest := [.int _]) S hnw hK okX6_dealer ll_X6_dealer npX6_dealer (c_X6_dealer μ a1 a2 (r, μ') f2) rfl (Nat.le_of_ble_eq_true rfl) hI hls (Nat.le_of_ble_eq_true rfl) dL_305 rfl (fun H locs hI => ?_)
    exact lv_icmp_eq (tgt := 793) hx hb dL_308 (by decide) (fun _ => hend _ _ H locs hR' hI) (fun z => absurd rfl z)
  · refine lv_tableIn (tgt := 313) hx hb dL_32 (by decide) (by decide) rfl (by decide) ?_
    obtain ⟨r, σ', μ', e1, e2, hR'⟩ := hsim σ μ hR 5 a1 a2 a3 (by decide)
    have f1 : j_X5_need σ a1 = some (r, σ') := e1
    have f2 : j_X6_need μ a1 = some (r, μ') := e2
    refine lv_aload_n hx hb dL_313 rfl (lv_at hl 2 rfl) ?_
    refine lv_aload_n hx hb dL_314 rfl (lv_at hl 3 rfl) ?_
    refine lv_iload_n hx hb dL_315 rfl (lv_at hl 0 rfl) ?_
    refine lv_iconst (v := 1) hx hb dL_316 (by decide) ?_
    refine lv_iadd hx hb dL_317 ?_
    refine va_sld hx hb hX hbl hbA hI.2.2 hin1 dL_318 ?_
    rw [ha]
    refine lw_cX (as := [.inl a1]) (rest := []) S hnw hK okX5_need ll_X5_need npX5_need (c_X5_need σ a1 (r, σ') f1) rfl (Nat.le_of_ble_eq_true rfl) hI hls (Nat.le_of_ble_eq_true rfl) dL_319 rfl (fun H locs hI => ?_)
    refine lv_aload_n hx hb dL_322 rfl (lv_at hl 1 rfl) ?_
    refine lv_aload_n hx hb dL_323 rfl (lv_at hl 3 rfl) ?_
    refine lv_iload_n hx hb dL_324 rfl (lv_at hl 0 rfl) ?_
    refine lv_iconst (v := 1) hx hb dL_325 (by decide) ?_
    refine lv_iadd hx hb dL_326 ?_
    refine va_sld hx hb hX hbl hbA hI.2.2 hin1 dL_327 ?_
    rw [ha]
    refine lw_cM (as := [.inl a1]) (rest := [.int _]) S hnw hK okX6_need ll_X6_need npX6_need (c_X6_need μ a1 (r, μ') f2) rfl (Nat.le_of_ble_eq_true rfl) hI hls (Nat.le_of_ble_eq_true rfl) dL_328 rfl (fun H locs hI => ?_)
    exact lv_icmp_eq (tgt := 793) hx hb dL_331 (by decide) (fun _ => hend _ _ H locs hR' hI) (fun z => absurd rfl z)
  · refine lv_tableIn (tgt := 336) hx hb dL_32 (by decide) (by decide) rfl (by decide) ?_
    obtain ⟨r, σ', μ', e1, e2, hR'⟩ := hsim σ μ hR 6 a1 a2 a3 (by decide)
    have f1 : j_X5_lie σ a1 a2 = some (r, σ') := e1
    have f2 : j_X6_lie μ a1 a2 = some (r, μ') := e2
    refine lv_aload_n hx hb dL_336 rfl (lv_at hl 2 rfl) ?_
    refine lv_aload_n hx hb dL_337 rfl (lv_at hl 3 rfl) ?_
    refine lv_iload_n hx hb dL_338 rfl (lv_at hl 0 rfl) ?_
    refine lv_iconst (v := 1) hx hb dL_339 (by decide) ?_
    refine lv_iadd hx hb dL_340 ?_
    refine va_sld hx hb hX hbl hbA hI.2.2 hin1 dL_341 ?_
    rw [ha]
    refine lv_aload_n hx hb dL_342 rfl (lv_at hl 3 rfl) ?_
    refine lv_iload_n hx hb dL_343 rfl (lv_at hl 0 rfl) ?_
    refine lv_iconst (v := 2) hx hb dL_344 (by decide) ?_
    refine lv_iadd hx hb dL_345 ?_
    refine va_sld hx hb hX hbl hbA hI.2.2 hin2 dL_346 ?_
    rw [hb2]
    refine lw_cX (as := [.inl a1, .inl a2]) (rest := []) S hnw hK okX5_lie ll_X5_lie npX5_lie (c_X5_lie σ a1 a2 (r, σ') f1) rfl (Nat.le_of_ble_eq_true rfl) hI hls (Nat.le_of_ble_eq_true rfl) dL_347 rfl (fun H locs hI => ?_)
    refine lv_aload_n hx hb dL_350 rfl (lv_at hl 1 rfl) ?_
    refine lv_aload_n hx hb dL_351 rfl (lv_at hl 3 rfl) ?_
    refine lv_iload_n hx hb dL_352 rfl (lv_at hl 0 rfl) ?_
    refine lv_iconst (v := 1) hx hb dL_353 (by decide) ?_
    refine lv_iadd hx hb dL_354 ?_
    refine va_sld hx hb hX hbl hbA hI.2.2 hin1 dL_355 ?_
    rw [ha]
    refine lv_aload_n hx hb dL_356 rfl (lv_at hl 3 rfl) ?_
    refine lv_iload_n hx hb dL_357 rfl (lv_at hl 0 rfl) ?_
    refine lv_iconst (v := 2) hx hb dL_358 (by decide) ?_
    refine lv_iadd hx hb dL_359 ?_
    refine va_sld hx hb hX hbl hbA hI.2.2 hin2 dL_360 ?_
    rw [hb2]
    refine lw_cM (as := [.inl a1, .inl a2]) (rest := [.int _]) S hnw hK okX6_lie ll_X6_lie npX6_lie (c_X6_lie μ a1 a2 (r, μ') f2) rfl (Nat.le_of_ble_eq_true rfl) hI hls (Nat.le_of_ble_eq_true rfl) dL_361 rfl (fun H locs hI => ?_)
    exact lv_icmp_eq (tgt := 793) hx hb dL_364 (by decide) (fun _ => hend _ _ H locs hR' hI) (fun z => absurd rfl z)
  · refine lv_tableIn (tgt := 369) hx hb dL_32 (by decide) (by decide) rfl (by decide) ?_
    obtain ⟨r, σ', μ', e1, e2, hR'⟩ := hsim σ μ hR 7 a1 a2 a3 (by decide)
    have f1 : j_X5_begin σ = some (r, σ') := e1
    have f2 : j_X6_begin μ = some (r, μ') := e2
    refine lv_aload_n hx hb dL_369 rfl (lv_at hl 2 rfl) ?_
    refine lw_cX (as := []) (rest := []) S hnw hK okX5_begin ll_X5_begin npX5_begin (c_X5_begin σ (r, σ') f1) rfl (Nat.le_of_ble_eq_true rfl) hI hls (Nat.le_of_ble_eq_true rfl) dL_370 rfl (fun H locs hI => ?_)
    refine lv_aload_n hx hb dL_373 rfl (lv_at hl 1 rfl) ?_
    refine lw_cM (as := []) (rest := [.int _]) S hnw hK okX6_begin ll_X6_begin npX6_begin (c_X6_begin μ (r, μ') f2) rfl (Nat.le_of_ble_eq_true rfl) hI hls (Nat.le_of_ble_eq_true rfl) dL_374 rfl (fun H locs hI => ?_)
    exact lv_icmp_eq (tgt := 793) hx hb dL_377 (by decide) (fun _ => hend _ _ H locs hR' hI) (fun z => absurd rfl z)
  · refine lv_tableIn (tgt := 382) hx hb dL_32 (by decide) (by decide) rfl (by decide) ?_
    obtain ⟨r, σ', μ', e1, e2, hR'⟩ := hsim σ μ hR 8 a1 a2 a3 (by decide)
    have f1 : j_X5_ticks σ a1 = some (r, σ') := e1
    have f2 : j_X6_ticks μ a1 = some (r, μ') := e2
    refine lv_aload_n hx hb dL_382 rfl (lv_at hl 2 rfl) ?_
    refine lv_aload_n hx hb dL_383 rfl (lv_at hl 3 rfl) ?_
    refine lv_iload_n hx hb dL_384 rfl (lv_at hl 0 rfl) ?_
    refine lv_iconst (v := 1) hx hb dL_385 (by decide) ?_
    refine lv_iadd hx hb dL_386 ?_
    refine va_sld hx hb hX hbl hbA hI.2.2 hin1 dL_387 ?_
    rw [ha]
    refine lw_cX (as := [.inl a1]) (rest := []) S hnw hK okX5_ticks ll_X5_ticks npX5_ticks (c_X5_ticks σ a1 (r, σ') f1) rfl (Nat.le_of_ble_eq_true rfl) hI hls (Nat.le_of_ble_eq_true rfl) dL_388 rfl (fun H locs hI => ?_)
    refine lv_aload_n hx hb dL_391 rfl (lv_at hl 1 rfl) ?_
    refine lv_aload_n hx hb dL_392 rfl (lv_at hl 3 rfl) ?_
    refine lv_iload_n hx hb dL_393 rfl (lv_at hl 0 rfl) ?_
    refine lv_iconst (v := 1) hx hb dL_394 (by decide) ?_
    refine lv_iadd hx hb dL_395 ?_
    refine va_sld hx hb hX hbl hbA hI.2.2 hin1 dL_396 ?_
    rw [ha]
    refine lw_cM (as := [.inl a1]) (rest := [.int _]) S hnw hK okX6_ticks ll_X6_ticks npX6_ticks (c_X6_ticks μ a1 (r, μ') f2) rfl (Nat.le_of_ble_eq_true rfl) hI hls (Nat.le_of_ble_eq_true rfl) dL_397 rfl (fun H locs hI => ?_)
    exact lv_icmp_eq (tgt := 793) hx hb dL_400 (by decide) (fun _ => hend _ _ H locs hR' hI) (fun z => absurd rfl z)
  · refine lv_tableIn (tgt := 405) hx hb dL_32 (by decide) (by decide) rfl (by decide) ?_
    obtain ⟨r, σ', μ', e1, e2, hR'⟩ := hsim σ μ hR 9 a1 a2 a3 (by decide)
    obtain ⟨r', f1, z⟩ := dp_bd_inv (show dp_bd (j_X5_node σ a1 a2) (fun r => some (r, σ)) = some (r, σ') from e1)
    cases z
    obtain ⟨r', f2, z⟩ := dp_bd_inv (show dp_bd (j_X6_node μ a1 a2) (fun r => some (r, μ)) = some (r, μ') from e2)
    cases z
    refine lv_aload_n hx hb dL_405 rfl (lv_at hl 2 rfl) ?_
    refine lv_aload_n hx hb dL_406 rfl (lv_at hl 3 rfl) ?_
    refine lv_iload_n hx hb dL_407 rfl (lv_at hl 0 rfl) ?_
    refine lv_iconst (v := 1) hx hb dL_408 (by decide) ?_
    refine lv_iadd hx hb dL_409 ?_
    refine va_sld hx hb hX hbl hbA hI.2.2 hin1 dL_410 ?_
    rw [ha]
    refine lv_aload_n hx hb dL_411 rfl (lv_at hl 3 rfl) ?_
    refine lv_iload_n hx hb dL_412 rfl (lv_at hl 0 rfl) ?_
    refine lv_iconst (v := 2) hx hb dL_413 (by decide) ?_
    refine lv_iadd hx hb dL_414 ?_
    refine va_sld hx hb hX hbl hbA hI.2.2 hin2 dL_415 ?_
    rw [hb2]
    refine lw_cX (as := [.inl a1, .inl a2]) (rest := []) S hnw hK okX5_node ll_X5_node npX5_node (c_X5_node σ a1 a2 _ f1) rfl (Nat.le_of_ble_eq_true rfl) hI hls (Nat.le_of_ble_eq_true rfl) dL_416 rfl (fun H locs hI => ?_)
    refine lv_aload_n hx hb dL_419 rfl (lv_at hl 1 rfl) ?_
    refine lv_aload_n hx hb dL_420 rfl (lv_at hl 3 rfl) ?_
    refine lv_iload_n hx hb dL_421 rfl (lv_at hl 0 rfl) ?_
    refine lv_iconst (v := 1) hx hb dL_422 (by decide) ?_
    refine lv_iadd hx hb dL_423 ?_
    refine va_sld hx hb hX hbl hbA hI.2.2 hin1 dL_424 ?_
    rw [ha]
    refine lv_aload_n hx hb dL_425 rfl (lv_at hl 3 rfl) ?_
    refine lv_iload_n hx hb dL_426 rfl (lv_at hl 0 rfl) ?_
    refine lv_iconst (v := 2) hx hb dL_427 (by decide) ?_
    refine lv_iadd hx hb dL_428 ?_
    refine va_sld hx hb hX hbl hbA hI.2.2 hin2 dL_429 ?_
    rw [hb2]
    refine lw_cM (as := [.inl a1, .inl a2]) (rest := [.int _]) S hnw hK okX6_node ll_X6_node npX6_node (c_X6_node μ a1 a2 _ f2) rfl (Nat.le_of_ble_eq_true rfl) hI hls (Nat.le_of_ble_eq_true rfl) dL_430 rfl (fun H locs hI => ?_)
    exact lv_icmp_eq (tgt := 793) hx hb dL_433 (by decide) (fun _ => hend _ _ H locs hR' hI) (fun z => absurd rfl z)
  · refine lv_tableIn (tgt := 438) hx hb dL_32 (by decide) (by decide) rfl (by decide) ?_
    obtain ⟨r, σ', μ', e1, e2, hR'⟩ := hsim σ μ hR 10 a1 a2 a3 (by decide)
    obtain ⟨r', f1, z⟩ := dp_bd_inv (show dp_bd (j_X5_band σ a1 a2) (fun r => some (r, σ)) = some (r, σ') from e1)
    cases z
    obtain ⟨r', f2, z⟩ := dp_bd_inv (show dp_bd (j_X6_band μ a1 a2) (fun r => some (r, μ)) = some (r, μ') from e2)
    cases z
    refine lv_aload_n hx hb dL_438 rfl (lv_at hl 2 rfl) ?_
    refine lv_aload_n hx hb dL_439 rfl (lv_at hl 3 rfl) ?_
    refine lv_iload_n hx hb dL_440 rfl (lv_at hl 0 rfl) ?_
    refine lv_iconst (v := 1) hx hb dL_441 (by decide) ?_
    refine lv_iadd hx hb dL_442 ?_
    refine va_sld hx hb hX hbl hbA hI.2.2 hin1 dL_443 ?_
    rw [ha]
    refine lv_aload_n hx hb dL_444 rfl (lv_at hl 3 rfl) ?_
    refine lv_iload_n hx hb dL_445 rfl (lv_at hl 0 rfl) ?_
    refine lv_iconst (v := 2) hx hb dL_446 (by decide) ?_
    refine lv_iadd hx hb dL_447 ?_
    refine va_sld hx hb hX hbl hbA hI.2.2 hin2 dL_448 ?_
    rw [hb2]
    refine lw_cX (as := [.inl a1, .inl a2]) (rest := []) S hnw hK okX5_band ll_X5_band npX5_band (c_X5_band σ a1 a2 _ f1) rfl (Nat.le_of_ble_eq_true rfl) hI hls (Nat.le_of_ble_eq_true rfl) dL_449 rfl (fun H locs hI => ?_)
    refine lv_aload_n hx hb dL_452 rfl (lv_at hl 1 rfl) ?_
    refine lv_aload_n hx hb dL_453 rfl (lv_at hl 3 rfl) ?_
    refine lv_iload_n hx hb dL_454 rfl (lv_at hl 0 rfl) ?_
    refine lv_iconst (v := 1) hx hb dL_455 (by decide) ?_
    refine lv_iadd hx hb dL_456 ?_
    refine va_sld hx hb hX hbl hbA hI.2.2 hin1 dL_457 ?_
    rw [ha]
    refine lv_aload_n hx hb dL_458 rfl (lv_at hl 3 rfl) ?_
    refine lv_iload_n hx hb dL_459 rfl (lv_at hl 0 rfl) ?_
    refine lv_iconst (v := 2) hx hb dL_460 (by decide) ?_
    refine lv_iadd hx hb dL_461 ?_
    refine va_sld hx hb hX hbl hbA hI.2.2 hin2 dL_462 ?_
    rw [hb2]
    refine lw_cM (as := [.inl a1, .inl a2]) (rest := [.int _]) S hnw hK okX6_band ll_X6_band npX6_band (c_X6_band μ a1 a2 _ f2) rfl (Nat.le_of_ble_eq_true rfl) hI hls (Nat.le_of_ble_eq_true rfl) dL_463 rfl (fun H locs hI => ?_)
    exact lv_icmp_eq (tgt := 793) hx hb dL_466 (by decide) (fun _ => hend _ _ H locs hR' hI) (fun z => absurd rfl z)
  · refine lv_tableIn (tgt := 471) hx hb dL_32 (by decide) (by decide) rfl (by decide) ?_
    obtain ⟨r, σ', μ', e1, e2, hR'⟩ := hsim σ μ hR 11 a1 a2 a3 (by decide)
    obtain ⟨r', f1, z⟩ := dp_bd_inv (show dp_bd (j_X5_sort σ a1) (fun r => some (r, σ)) = some (r, σ') from e1)
    cases z
    obtain ⟨r', f2, z⟩ := dp_bd_inv (show dp_bd (j_X6_sort μ a1) (fun r => some (r, μ)) = some (r, μ') from e2)
    cases z
    refine lv_aload_n hx hb dL_471 rfl (lv_at hl 2 rfl) ?_
    refine lv_aload_n hx hb dL_472 rfl (lv_at hl 3 rfl) ?_
    refine lv_iload_n hx hb dL_473 rfl (lv_at hl 0 rfl) ?_
    refine lv_iconst (v := 1) hx hb dL_474 (by decide) ?_
    refine lv_iadd hx hb dL_475 ?_
    refine va_sld hx hb hX hbl hbA hI.2.2 hin1 dL_476 ?_
    rw [ha]
    refine lw_cX (as := [.inl a1]) (rest := []) S hnw hK okX5_sort ll_X5_sort npX5_sort (c_X5_sort σ a1 _ f1) rfl (Nat.le_of_ble_eq_true rfl) hI hls (Nat.le_of_ble_eq_true rfl) dL_477 rfl (fun H locs hI => ?_)
    refine lv_aload_n hx hb dL_480 rfl (lv_at hl 1 rfl) ?_
    refine lv_aload_n hx hb dL_481 rfl (lv_at hl 3 rfl) ?_
    refine lv_iload_n hx hb dL_482 rfl (lv_at hl 0 rfl) ?_
    refine lv_iconst (v := 1) hx hb dL_483 (by decide) ?_
    refine lv_iadd hx hb dL_484 ?_
    refine va_sld hx hb hX hbl hbA hI.2.2 hin1 dL_485 ?_
    rw [ha]
    refine lw_cM (as := [.inl a1]) (rest := [.int _]) S hnw hK okX6_sort ll_X6_sort npX6_sort (c_X6_sort μ a1 _ f2) rfl (Nat.le_of_ble_eq_true rfl) hI hls (Nat.le_of_ble_eq_true rfl) dL_486 rfl (fun H locs hI => ?_)
    exact lv_icmp_eq (tgt := 793) hx hb dL_489 (by decide) (fun _ => hend _ _ H locs hR' hI) (fun z => absurd rfl z)
  · refine lv_tableIn (tgt := 494) hx hb dL_32 (by decide) (by decide) rfl (by decide) ?_
    obtain ⟨r, σ', μ', e1, e2, hR'⟩ := hsim σ μ hR 12 a1 a2 a3 (by decide)
    obtain ⟨r', f1, z⟩ := dp_bd_inv (show dp_bd (j_X5_crowded σ a1) (fun r => some (r, σ)) = some (r, σ') from e1)
    cases z
    obtain ⟨r', f2, z⟩ := dp_bd_inv (show dp_bd (j_X6_crowded μ a1) (fun r => some (r, μ)) = some (r, μ') from e2)
    cases z
    refine lv_aload_n hx hb dL_494 rfl (lv_at hl 2 rfl) ?_
    refine lv_aload_n hx hb dL_495 rfl (lv_at hl 3 rfl) ?_
    refine lv_iload_n hx hb dL_496 rfl (lv_at hl 0 rfl) ?_
    refine lv_iconst (v := 1) hx hb dL_497 (by decide) ?_
    refine lv_iadd hx hb dL_498 ?_
    refine va_sld hx hb hX hbl hbA hI.2.2 hin1 dL_499 ?_
    rw [ha]
    refine lw_cX (as := [.inl a1]) (rest := []) S hnw hK okX5_crowded ll_X5_crowded npX5_crowded (c_X5_crowded σ a1 _ f1) rfl (Nat.le_of_ble_eq_true rfl) hI hls (Nat.le_of_ble_eq_true rfl) dL_500 rfl (fun H locs hI => ?_)
    refine lv_aload_n hx hb dL_503 rfl (lv_at hl 1 rfl) ?_
    refine lv_aload_n hx hb dL_504 rfl (lv_at hl 3 rfl) ?_
    refine lv_iload_n hx hb dL_505 rfl (lv_at hl 0 rfl) ?_
    refine lv_iconst (v := 1) hx hb dL_506 (by decide) ?_
    refine lv_iadd hx hb dL_507 ?_
    refine va_sld hx hb hX hbl hbA hI.2.2 hin1 dL_508 ?_
    rw [ha]
    refine lw_cM (as := [.inl a1]) (rest := [.int _]) S hnw hK okX6_crowded ll_X6_crowded npX6_crowded (c_X6_crowded μ a1 _ f2) rfl (Nat.le_of_ble_eq_true rfl) hI hls (Nat.le_of_ble_eq_true rfl) dL_509 rfl (fun H locs hI => ?_)
    exact lv_icmp_eq (tgt := 793) hx hb dL_512 (by decide) (fun _ => hend _ _ H locs hR' hI) (fun z => absurd rfl z)
  · refine lv_tableIn (tgt := 517) hx hb dL_32 (by decide) (by decide) rfl (by decide) ?_
    obtain ⟨r, σ', μ', e1, e2, hR'⟩ := hsim σ μ hR 13 a1 a2 a3 (by decide)
    obtain ⟨r', f1, z⟩ := dp_bd_inv (show dp_bd (j_X5_reached σ a1) (fun r => some (r, σ)) = some (r, σ') from e1)
    cases z
    obtain ⟨r', f2, z⟩ := dp_bd_inv (show dp_bd (j_X6_reached μ a1) (fun r => some (r, μ)) = some (r, μ') from e2)
    cases z
    refine lv_aload_n hx hb dL_517 rfl (lv_at hl 2 rfl) ?_
    refine lv_aload_n hx hb dL_518 rfl (lv_at hl 3 rfl) ?_
    refine lv_iload_n hx hb dL_519 rfl (lv_at hl 0 rfl) ?_
    refine lv_iconst (v := 1) hx hb dL_520 (by decide) ?_
    refine lv_iadd hx hb dL_521 ?_
    refine va_sld hx hb hX hbl hbA hI.2.2 hin1 dL_522 ?_
    rw [ha]
    refine lw_cX (as := [.inl a1]) (rest := []) S hnw hK okX5_reached ll_X5_reached npX5_reached (c_X5_reached σ a1 _ f1) rfl (Nat.le_of_ble_eq_true rfl) hI hls (Nat.le_of_ble_eq_true rfl) dL_523 rfl (fun H locs hI => ?_)
    refine lv_aload_n hx hb dL_526 rfl (lv_at hl 1 rfl) ?_
    refine lv_aload_n hx hb dL_527 rfl (lv_at hl 3 rfl) ?_
    refine lv_iload_n hx hb dL_528 rfl (lv_at hl 0 rfl) ?_
    refine lv_iconst (v := 1) hx hb dL_529 (by decide) ?_
    refine lv_iadd hx hb dL_530 ?_
    refine va_sld hx hb hX hbl hbA hI.2.2 hin1 dL_531 ?_
    rw [ha]
    refine lw_cM (as := [.inl a1]) (rest := [.int _]) S hnw hK okX6_reached ll_X6_reached npX6_reached (c_X6_reached μ a1 _ f2) rfl (Nat.le_of_ble_eq_true rfl) hI hls (Nat.le_of_ble_eq_true rfl) dL_532 rfl (fun H locs hI => ?_)
    exact lv_icmp_eq (tgt := 793) hx hb dL_535 (by decide) (fun _ => hend _ _ H locs hR' hI) (fun z => absurd rfl z)
  · refine lv_tableIn (tgt := 540) hx hb dL_32 (by decide) (by decide) rfl (by decide) ?_
    obtain ⟨r, σ', μ', e1, e2, hR'⟩ := hsim σ μ hR 14 a1 a2 a3 (by decide)
    have f1 : j_X5_worst σ a1 = some (r, σ') := e1
    have f2 : j_X6_worst μ a1 = some (r, μ') := e2
    refine lv_aload_n hx hb dL_540 rfl (lv_at hl 2 rfl) ?_
    refine lv_aload_n hx hb dL_541 rfl (lv_at hl 3 rfl) ?_
    refine lv_iload_n hx hb dL_542 rfl (lv_at hl 0 rfl) ?_
    refine lv_iconst (v := 1) hx hb dL_543 (by decide) ?_
    refine lv_iadd hx hb dL_544 ?_
    refine va_sld hx hb hX hbl hbA hI.2.2 hin1 dL_545 ?_
    rw [ha]
    refine lw_cX (as := [.inl a1]) (rest := []) S hnw hK okX5_worst ll_X5_worst npX5_worst (c_X5_worst σ a1 (r, σ') f1) rfl (Nat.le_of_ble_eq_true rfl) hI hls (Nat.le_of_ble_eq_true rfl) dL_546 rfl (fun H locs hI => ?_)
    refine lv_aload_n hx hb dL_549 rfl (lv_at hl 1 rfl) ?_
    refine lv_aload_n hx hb dL_550 rfl (lv_at hl 3 rfl) ?_
    refine lv_iload_n hx hb dL_551 rfl (lv_at hl 0 rfl) ?_
    refine lv_iconst (v := 1) hx hb dL_552 (by decide) ?_
    refine lv_iadd hx hb dL_553 ?_
    refine va_sld hx hb hX hbl hbA hI.2.2 hin1 dL_554 ?_
    rw [ha]
    refine lw_cM (as := [.inl a1]) (rest := [.int _]) S hnw hK okX6_worst ll_X6_worst npX6_worst (c_X6_worst μ a1 (r, μ') f2) rfl (Nat.le_of_ble_eq_true rfl) hI hls (Nat.le_of_ble_eq_true rfl) dL_555 rfl (fun H locs hI => ?_)
    exact lv_icmp_eq (tgt := 793) hx hb dL_558 (by decide) (fun _ => hend _ _ H locs hR' hI) (fun z => absurd rfl z)
  · refine lv_tableIn (tgt := 563) hx hb dL_32 (by decide) (by decide) rfl (by decide) ?_
    obtain ⟨r, σ', μ', e1, e2, hR'⟩ := hsim σ μ hR 15 a1 a2 a3 (by decide)
    obtain ⟨r', f1, z⟩ := dp_bd_inv (show dp_bd (j_X5_bears σ) (fun r => some (r, σ)) = some (r, σ') from e1)
    cases z
    have f2 : j_X6_bears μ = some (r, μ') := e2
    refine lv_aload_n hx hb dL_563 rfl (lv_at hl 2 rfl) ?_
    refine lw_cX (as := []) (rest := []) S hnw hK okX5_bears ll_X5_bears npX5_bears (c_X5_bears σ _ f1) rfl (Nat.le_of_ble_eq_true rfl) hI hls (Nat.le_of_ble_eq_true rfl) dL_564 rfl (fun H locs hI => ?_)
    refine lv_aload_n hx hb dL_567 rfl (lv_at hl 1 rfl) ?_
    refine lw_cM (as := []) (rest := [.int _]) S hnw hK okX6_bears ll_X6_bears npX6_bears (c_X6_bears μ (r, μ') f2) rfl (Nat.le_of_ble_eq_true rfl) hI hls (Nat.le_of_ble_eq_true rfl) dL_568 rfl (fun H locs hI => ?_)
    exact lv_icmp_eq (tgt := 793) hx hb dL_571 (by decide) (fun _ => hend _ _ H locs hR' hI) (fun z => absurd rfl z)
  · refine lv_tableIn (tgt := 576) hx hb dL_32 (by decide) (by decide) rfl (by decide) ?_
    obtain ⟨r, σ', μ', e1, e2, hR'⟩ := hsim σ μ hR 16 a1 a2 a3 (by decide)
    have f1 : j_X5_name σ a1 = some (r, σ') := e1
    have f2 : j_X6_name μ a1 = some (r, μ') := e2
    refine lv_aload_n hx hb dL_576 rfl (lv_at hl 2 rfl) ?_
    refine lv_aload_n hx hb dL_577 rfl (lv_at hl 3 rfl) ?_
    refine lv_iload_n hx hb dL_578 rfl (lv_at hl 0 rfl) ?_
    refine lv_iconst (v := 1) hx hb dL_579 (by decide) ?_
    refine lv_iadd hx hb dL_580 ?_
    refine va_sld hx hb hX hbl hbA hI.2.2 hin1 dL_581 ?_
    rw [ha]
    refine lw_cX (as := [.inl a1]) (rest := []) S hnw hK okX5_name ll_X5_name npX5_name (c_X5_name σ a1 (r, σ') f1) rfl (Nat.le_of_ble_eq_true rfl) hI hls (Nat.le_of_ble_eq_true rfl) dL_582 rfl (fun H locs hI => ?_)
    refine lv_aload_n hx hb dL_585 rfl (lv_at hl 1 rfl) ?_
    refine lv_aload_n hx hb dL_586 rfl (lv_at hl 3 rfl) ?_
    refine lv_iload_n hx hb dL_587 rfl (lv_at hl 0 rfl) ?_
    refine lv_iconst (v := 1) hx hb dL_588 (by decide) ?_
    refine lv_iadd hx hb dL_589 ?_
    refine va_sld hx hb hX hbl hbA hI.2.2 hin1 dL_590 ?_
    rw [ha]
    refine lw_cM (as := [.inl a1]) (rest := [.int _]) S hnw hK okX6_name ll_X6_name npX6_name (c_X6_name μ a1 (r, μ') f2) rfl (Nat.le_of_ble_eq_true rfl) hI hls (Nat.le_of_ble_eq_true rfl) dL_591 rfl (fun H locs hI => ?_)
    exact lv_icmp_eq (tgt := 793) hx hb dL_594 (by decide) (fun _ => hend _ _ H locs hR' hI) (fun z => absurd rfl z)
  · refine lv_tableIn (tgt := 599) hx hb dL_32 (by decide) (by decide) rfl (by decide) ?_
    obtain ⟨r, σ', μ', e1, e2, hR'⟩ := hsim σ μ hR 17 a1 a2 a3 (by decide)
    obtain ⟨r', f1, z⟩ := dp_bd_inv (show dp_bd (j_X5_named σ a1) (fun r => some (r, σ)) = some (r, σ') from e1)
    cases z
    obtain ⟨r', f2, z⟩ := dp_bd_inv (show dp_bd (j_X6_named μ a1) (fun r => some (r, μ)) = some (r, μ') from e2)
    cases z
    refine lv_aload_n hx hb dL_599 rfl (lv_at hl 2 rfl) ?_
    refine lv_aload_n hx hb dL_600 rfl (lv_at hl 3 rfl) ?_
    refine lv_iload_n hx hb dL_601 rfl (lv_at hl 0 rfl) ?_
    refine lv_iconst (v := 1) hx hb dL_602 (by decide) ?_
    refine lv_iadd hx hb dL_603 ?_
    refine va_sld hx hb hX hbl hbA hI.2.2 hin1 dL_604 ?_
    rw [ha]
    refine lw_cX (as := [.inl a1]) (rest := []) S hnw hK okX5_named ll_X5_named npX5_named (c_X5_named σ a1 _ f1) rfl (Nat.le_of_ble_eq_true rfl) hI hls (Nat.le_of_ble_eq_true rfl) dL_605 rfl (fun H locs hI => ?_)
    refine lv_aload_n hx hb dL_608 rfl (lv_at hl 1 rfl) ?_
    refine lv_aload_n hx hb dL_609 rfl (lv_at hl 3 rfl) ?_
    refine lv_iload_n hx hb dL_610 rfl (lv_at hl 0 rfl) ?_
    refine lv_iconst (v := 1) hx hb dL_611 (by decide) ?_
    refine lv_iadd hx hb dL_612 ?_
    refine va_sld hx hb hX hbl hbA hI.2.2 hin1 dL_613 ?_
    rw [ha]
    refine lw_cM (as := [.inl a1]) (rest := [.int _]) S hnw hK okX6_named ll_X6_named npX6_named (c_X6_named μ a1 _ f2) rfl (Nat.le_of_ble_eq_true rfl) hI hls (Nat.le_of_ble_eq_true rfl) dL_614 rfl (fun H locs hI => ?_)
    exact lv_icmp_eq (tgt := 793) hx hb dL_617 (by decide) (fun _ => hend _ _ H locs hR' hI) (fun z => absurd rfl z)
  · refine lv_tableIn (tgt := 622) hx hb dL_32 (by decide) (by decide) rfl (by decide) ?_
    obtain ⟨r, σ', μ', e1, e2, hR'⟩ := hsim σ μ hR 18 a1 a2 a3 (by decide)
    have f1 : j_X5_walk σ a1 = some (r, σ') := e1
    have f2 : j_X6_walk μ a1 = some (r, μ') := e2
    refine lv_aload_n hx hb dL_622 rfl (lv_at hl 2 rfl) ?_
    refine lv_aload_n hx hb dL_623 rfl (lv_at hl 3 rfl) ?_
    refine lv_iload_n hx hb dL_624 rfl (lv_at hl 0 rfl) ?_
    refine lv_iconst (v := 1) hx hb dL_625 (by decide) ?_
    refine lv_iadd hx hb dL_626 ?_
    refine va_sld hx hb hX hbl hbA hI.2.2 hin1 dL_627 ?_
    rw [ha]
    refine lw_cX (as := [.inl a1]) (rest := []) S hnw hK okX5_walk ll_X5_walk npX5_walk (c_X5_walk σ a1 (r, σ') f1) rfl (Nat.le_of_ble_eq_true rfl) hI hls (Nat.le_of_ble_eq_true rfl) dL_628 rfl (fun H locs hI => ?_)
    refine lv_aload_n hx hb dL_631 rfl (lv_at hl 1 rfl) ?_
    refine lv_aload_n hx hb dL_632 rfl (lv_at hl 3 rfl) ?_
    refine lv_iload_n hx hb dL_633 rfl (lv_at hl 0 rfl) ?_
    refine lv_iconst (v := 1) hx hb dL_634 (by decide) ?_
    refine lv_iadd hx hb dL_635 ?_
    refine va_sld hx hb hX hbl hbA hI.2.2 hin1 dL_636 ?_
    rw [ha]
    refine lw_cM (as := [.inl a1]) (rest := [.int _]) S hnw hK okX6_walk ll_X6_walk npX6_walk (c_X6_walk μ a1 (r, μ') f2) rfl (Nat.le_of_ble_eq_true rfl) hI hls (Nat.le_of_ble_eq_true rfl) dL_637 rfl (fun H locs hI => ?_)
    exact lv_icmp_eq (tgt := 793) hx hb dL_640 (by decide) (fun _ => hend _ _ H locs hR' hI) (fun z => absurd rfl z)
  · refine lv_tableIn (tgt := 645) hx hb dL_32 (by decide) (by decide) rfl (by decide) ?_
    obtain ⟨r, σ', μ', e1, e2, hR'⟩ := hsim σ μ hR 19 a1 a2 a3 (by decide)
    have f1 : j_X5_tell σ a1 = some (r, σ') := e1
    have f2 : j_X6_tell μ a1 = some (r, μ') := e2
    refine lv_aload_n hx hb dL_645 rfl (lv_at hl 2 rfl) ?_
    refine lv_aload_n hx hb dL_646 rfl (lv_at hl 3 rfl) ?_
    refine lv_iload_n hx hb dL_647 rfl (lv_at hl 0 rfl) ?_
    refine lv_iconst (v := 1) hx hb dL_648 (by decide) ?_
    refine lv_iadd hx hb dL_649 ?_
    refine va_sld hx hb hX hbl hbA hI.2.2 hin1 dL_650 ?_
    rw [ha]
    refine lw_cX (as := [.inl a1]) (rest := []) S hnw hK okX5_tell ll_X5_tell npX5_tell (c_X5_tell σ a1 (r, σ') f1) rfl (Nat.le_of_ble_eq_true rfl) hI hls (Nat.le_of_ble_eq_true rfl) dL_651 rfl (fun H locs hI => ?_)
    refine lv_aload_n hx hb dL_654 rfl (lv_at hl 1 rfl) ?_
    refine lv_aload_n hx hb dL_655 rfl (lv_at hl 3 rfl) ?_
    refine lv_iload_n hx hb dL_656 rfl (lv_at hl 0 rfl) ?_
    refine lv_iconst (v := 1) hx hb dL_657 (by decide) ?_
    refine lv_iadd hx hb dL_658 ?_
    refine va_sld hx hb hX hbl hbA hI.2.2 hin1 dL_659 ?_
    rw [ha]
    refine lw_cM (as := [.inl a1]) (rest := [.int _]) S hnw hK okX6_tell ll_X6_tell npX6_tell (c_X6_tell μ a1 (r, μ') f2) rfl (Nat.le_of_ble_eq_true rfl) hI hls (Nat.le_of_ble_eq_true rfl) dL_660 rfl (fun H locs hI => ?_)
    exact lv_icmp_eq (tgt := 793) hx hb dL_663 (by decide) (fun _ => hend _ _ H locs hR' hI) (fun z => absurd rfl z)
  · refine lv_tableIn (tgt := 668) hx hb dL_32 (by decide) (by decide) rfl (by decide) ?_
    obtain ⟨r, σ', μ', e1, e2, hR'⟩ := hsim σ μ hR 20 a1 a2 a3 (by decide)
    have f1 : j_X5_drop σ = some (r, σ') := e1
    have f2 : j_X6_drop μ = some (r, μ') := e2
    refine lv_aload_n hx hb dL_668 rfl (lv_at hl 2 rfl) ?_
    refine lw_cX (as := []) (rest := []) S hnw hK okX5_drop ll_X5_drop npX5_drop (c_X5_drop σ (r, σ') f1) rfl (Nat.le_of_ble_eq_true rfl) hI hls (Nat.le_of_ble_eq_true rfl) dL_669 rfl (fun H locs hI => ?_)
    refine lv_aload_n hx hb dL_672 rfl (lv_at hl 1 rfl) ?_
    refine lw_cM (as := []) (rest := [.int _]) S hnw hK okX6_drop ll_X6_drop npX6_drop (c_X6_drop μ (r, μ') f2) rfl (Nat.le_of_ble_eq_true rfl) hI hls (Nat.le_of_ble_eq_true rfl) dL_673 rfl (fun H locs hI => ?_)
    exact lv_icmp_eq (tgt := 793) hx hb dL_676 (by decide) (fun _ => hend _ _ H locs hR' hI) (fun z => absurd rfl z)
  · refine lv_tableIn (tgt := 681) hx hb dL_32 (by decide) (by decide) rfl (by decide) ?_
    obtain ⟨r, σ', μ', e1, e2, hR'⟩ := hsim σ μ hR 21 a1 a2 a3 (by decide)
    obtain ⟨r', f1, z⟩ := dp_bd_inv (show dp_bd (j_X5_claim σ a1 a2) (fun r => some (r, σ)) = some (r, σ') from e1)
    cases z
    obtain ⟨r', f2, z⟩ := dp_bd_inv (show dp_bd (j_X6_claim μ a1 a2) (fun r => some (r, μ)) = some (r, μ') from e2)
    cases z
    refine lv_aload_n hx hb dL_681 rfl (lv_at hl 2 rfl) ?_
    refine lv_aload_n hx hb dL_682 rfl (lv_at hl 3 rfl) ?_
    refine lv_iload_n hx hb dL_683 rfl (lv_at hl 0 rfl) ?_
    refine lv_iconst (v := 1) hx hb dL_684 (by decide) ?_
    refine lv_iadd hx hb dL_685 ?_
    refine va_sld hx hb hX hbl hbA hI.2.2 hin1 dL_686 ?_
    rw [ha]
    refine lv_aload_n hx hb dL_687 rfl (lv_at hl 3 rfl) ?_
    refine lv_iload_n hx hb dL_688 rfl (lv_at hl 0 rfl) ?_
    refine lv_iconst (v := 2) hx hb dL_689 (by decide) ?_
    refine lv_iadd hx hb dL_690 ?_
    refine va_sld hx hb hX hbl hbA hI.2.2 hin2 dL_691 ?_
    rw [hb2]
    refine lw_cX (as := [.inl a1, .inl a2]) (rest := []) S hnw hK okX5_claim ll_X5_claim npX5_claim (c_X5_claim σ a1 a2 _ f1) rfl (Nat.le_of_ble_eq_true rfl) hI hls (Nat.le_of_ble_eq_true rfl) dL_692 rfl (fun H locs hI => ?_)
    refine lv_aload_n hx hb dL_695 rfl (lv_at hl 1 rfl) ?_
    refine lv_aload_n hx hb dL_696 rfl (lv_at hl 3 rfl) ?_
    refine lv_iload_n hx hb dL_697 rfl (lv_at hl 0 rfl) ?_
    refine lv_iconst (v := 1) hx hb dL_698 (by decide) ?_
    refine lv_iadd hx hb dL_699 ?_
    refine va_sld hx hb hX hbl hbA hI.2.2 hin1 dL_700 ?_
    rw [ha]
    refine lv_aload_n hx hb dL_701 rfl (lv_at hl 3 rfl) ?_
    refine lv_iload_n hx hb dL_702 rfl (lv_at hl 0 rfl) ?_
    refine lv_iconst (v := 2) hx hb dL_703 (by decide) ?_
    refine lv_iadd hx hb dL_704 ?_
    refine va_sld hx hb hX hbl hbA hI.2.2 hin2 dL_705 ?_
    rw [hb2]
    refine lw_cM (as := [.inl a1, .inl a2]) (rest := [.int _]) S hnw hK okX6_claim ll_X6_claim npX6_claim (c_X6_claim μ a1 a2 _ f2) rfl (Nat.le_of_ble_eq_true rfl) hI hls (Nat.le_of_ble_eq_true rfl) dL_706 rfl (fun H locs hI => ?_)
    exact lv_icmp_eq (tgt := 793) hx hb dL_709 (by decide) (fun _ => hend _ _ H locs hR' hI) (fun z => absurd rfl z)
  · refine lv_tableIn (tgt := 714) hx hb dL_32 (by decide) (by decide) rfl (by decide) ?_
    obtain ⟨r, σ', μ', e1, e2, hR'⟩ := hsim σ μ hR 22 a1 a2 a3 (by decide)
    have f1 : j_X5_proof σ a1 a2 = some (r, σ') := e1
    obtain ⟨r', f2, z⟩ := dp_bd_inv (show dp_bd (j_X6_proof μ a1 a2) (fun r => some (r, μ)) = some (r, μ') from e2)
    cases z
    refine lv_aload_n hx hb dL_714 rfl (lv_at hl 2 rfl) ?_
    refine lv_aload_n hx hb dL_715 rfl (lv_at hl 3 rfl) ?_
    refine lv_iload_n hx hb dL_716 rfl (lv_at hl 0 rfl) ?_
    refine lv_iconst (v := 1) hx hb dL_717 (by decide) ?_
    refine lv_iadd hx hb dL_718 ?_
    refine va_sld hx hb hX hbl hbA hI.2.2 hin1 dL_719 ?_
    rw [ha]
    refine lv_aload_n hx hb dL_720 rfl (lv_at hl 3 rfl) ?_
    refine lv_iload_n hx hb dL_721 rfl (lv_at hl 0 rfl) ?_
    refine lv_iconst (v := 2) hx hb dL_722 (by decide) ?_
    refine lv_iadd hx hb dL_723 ?_
    refine va_sld hx hb hX hbl hbA hI.2.2 hin2 dL_724 ?_
    rw [hb2]
    refine lw_cX (as := [.inl a1, .inl a2]) (rest := []) S hnw hK okX5_proof ll_X5_proof npX5_proof (c_X5_proof σ a1 a2 (r, σ') f1) rfl (Nat.le_of_ble_eq_true rfl) hI hls (Nat.le_of_ble_eq_true rfl) dL_725 rfl (fun H locs hI => ?_)
    refine lv_aload_n hx hb dL_728 rfl (lv_at hl 1 rfl) ?_
    refine lv_aload_n hx hb dL_729 rfl (lv_at hl 3 rfl) ?_
    refine lv_iload_n hx hb dL_730 rfl (lv_at hl 0 rfl) ?_
    refine lv_iconst (v := 1) hx hb dL_731 (by decide) ?_
    refine lv_iadd hx hb dL_732 ?_
    refine va_sld hx hb hX hbl hbA hI.2.2 hin1 dL_733 ?_
    rw [ha]
    refine lv_aload_n hx hb dL_734 rfl (lv_at hl 3 rfl) ?_
    refine lv_iload_n hx hb dL_735 rfl (lv_at hl 0 rfl) ?_
    refine lv_iconst (v := 2) hx hb dL_736 (by decide) ?_
    refine lv_iadd hx hb dL_737 ?_
    refine va_sld hx hb hX hbl hbA hI.2.2 hin2 dL_738 ?_
    rw [hb2]
    refine lw_cM (as := [.inl a1, .inl a2]) (rest := [.int _]) S hnw hK okX6_proof ll_X6_proof npX6_proof (c_X6_proof μ a1 a2 _ f2) rfl (Nat.le_of_ble_eq_true rfl) hI hls (Nat.le_of_ble_eq_true rfl) dL_739 rfl (fun H locs hI => ?_)
    exact lv_icmp_eq (tgt := 793) hx hb dL_742 (by decide) (fun _ => hend _ _ H locs hR' hI) (fun z => absurd rfl z)
  · refine lv_tableIn (tgt := 747) hx hb dL_32 (by decide) (by decide) rfl (by decide) ?_
    obtain ⟨r, σ', μ', e1, e2, hR'⟩ := hsim σ μ hR 23 a1 a2 a3 (by decide)
    have f1 : j_X5_believes σ a1 = some (r, σ') := e1
    obtain ⟨r', f2, z⟩ := dp_bd_inv (show dp_bd (j_X6_believes μ a1) (fun r => some (r, μ)) = some (r, μ') from e2)
    cases z
    refine lv_aload_n hx hb dL_747 rfl (lv_at hl 2 rfl) ?_
    refine lv_aload_n hx hb dL_748 rfl (lv_at hl 3 rfl) ?_
    refine lv_iload_n hx hb dL_749 rfl (lv_at hl 0 rfl) ?_
    refine lv_iconst (v := 1) hx hb dL_750 (by decide) ?_
    refine lv_iadd hx hb dL_751 ?_
    refine va_sld hx hb hX hbl hbA hI.2.2 hin1 dL_752 ?_
    rw [ha]
    refine lw_cX (as := [.inl a1]) (rest := []) S hnw hK okX5_believes ll_X5_believes npX5_believes (c_X5_believes σ a1 (r, σ') f1) rfl (Nat.le_of_ble_eq_true rfl) hI hls (Nat.le_of_ble_eq_true rfl) dL_753 rfl (fun H locs hI => ?_)
    refine lv_aload_n hx hb dL_756 rfl (lv_at hl 1 rfl) ?_
    refine lv_aload_n hx hb dL_757 rfl (lv_at hl 3 rfl) ?_
    refine lv_iload_n hx hb dL_758 rfl (lv_at hl 0 rfl) ?_
    refine lv_iconst (v := 1) hx hb dL_759 (by decide) ?_
    refine lv_iadd hx hb dL_760 ?_
    refine va_sld hx hb hX hbl hbA hI.2.2 hin1 dL_761 ?_
    rw [ha]
    refine lw_cM (as := [.inl a1]) (rest := [.int _]) S hnw hK okX6_believes ll_X6_believes npX6_believes (c_X6_believes μ a1 _ f2) rfl (Nat.le_of_ble_eq_true rfl) hI hls (Nat.le_of_ble_eq_true rfl) dL_762 rfl (fun H locs hI => ?_)
    exact lv_icmp_eq (tgt := 793) hx hb dL_765 (by decide) (fun _ => hend _ _ H locs hR' hI) (fun z => absurd rfl z)
  · refine lv_tableIn (tgt := 770) hx hb dL_32 (by decide) (by decide) rfl (by decide) ?_
    obtain ⟨r, σ', μ', e1, e2, hR'⟩ := hsim σ μ hR 24 a1 a2 a3 (by decide)
    obtain ⟨r', f1, z⟩ := dp_bd_inv (show dp_bd (j_X5_many σ a1) (fun r => some (r, σ)) = some (r, σ') from e1)
    cases z
    obtain ⟨r', f2, z⟩ := dp_bd_inv (show dp_bd (j_X6_many μ a1) (fun r => some (r, μ)) = some (r, μ') from e2)
    cases z
    refine lv_aload_n hx hb dL_770 rfl (lv_at hl 2 rfl) ?_
    refine lv_aload_n hx hb dL_771 rfl (lv_at hl 3 rfl) ?_
    refine lv_iload_n hx hb dL_772 rfl (lv_at hl 0 rfl) ?_
    refine lv_iconst (v := 1) hx hb dL_773 (by decide) ?_
    refine lv_iadd hx hb dL_774 ?_
    refine va_sld hx hb hX hbl hbA hI.2.2 hin1 dL_775 ?_
    rw [ha]
    refine lw_cX (as := [.inl a1]) (rest := []) S hnw hK okX5_many ll_X5_many npX5_many (c_X5_many σ a1 _ f1) rfl (Nat.le_of_ble_eq_true rfl) hI hls (Nat.le_of_ble_eq_true rfl) dL_776 rfl (fun H locs hI => ?_)
    refine lv_aload_n hx hb dL_779 rfl (lv_at hl 1 rfl) ?_
    refine lv_aload_n hx hb dL_780 rfl (lv_at hl 3 rfl) ?_
    refine lv_iload_n hx hb dL_781 rfl (lv_at hl 0 rfl) ?_
    refine lv_iconst (v := 1) hx hb dL_782 (by decide) ?_
    refine lv_iadd hx hb dL_783 ?_
    refine va_sld hx hb hX hbl hbA hI.2.2 hin1 dL_784 ?_
    rw [ha]
    refine lw_cM (as := [.inl a1]) (rest := [.int _]) S hnw hK okX6_many ll_X6_many npX6_many (c_X6_many μ a1 _ f2) rfl (Nat.le_of_ble_eq_true rfl) hI hls (Nat.le_of_ble_eq_true rfl) dL_785 rfl (fun H locs hI => ?_)
    exact lv_icmp_eq (tgt := 793) hx hb dL_788 (by decide) (fun _ => hend _ _ H locs hR' hI) (fun z => absurd rfl z)
  · refine lv_tableOut (tgt := 793) hx hb dL_32 (Or.inr ?_) (by decide) ?_
    · rw [nI_toInt (by omega)]
      omega
    · exact hend σ μ H locs hR hI
