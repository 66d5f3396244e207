/-! ===== printed by program: the pure functions of the methods, and that the bytecode does what they say ===== -/
def j_X1_forget (s : dp_Z) : Option dp_Z := (dp_bd (some (dp_sf s 13 (0 : Int32))) fun s1 => (some s1))
set_option maxHeartbeats 1000000 in
set_option maxRecDepth 20000 in
theorem we_X1_forget {post : Option dp_V → dp_H → Prop} {h0 : dp_H} (s : dp_Z) (o : dp_Z) (h : j_X1_forget s = some o) (hk : post none (hX o)) : dp_W 0 mX1_forget false h0 0 0 post 0 0 (0, [some (.inr (some 10))], [], (hX s)) := by
  unfold j_X1_forget at h
  refine dp_blk okX1_forget 2 (S' := (2, [some (.inr (some 10))], [.inl (0 : Int32), .inr (some 10)], (hX s))) rfl ?_
  obtain ⟨s1, hs, h⟩ := dp_bd_inv h
  have hs := Option.some.inj hs
  refine dp_pfe okX1_forget rfl (by decide) (qhX_10 s) (Nat.le_of_ble_eq_true rfl) ((phX_13 s (0 : Int32)).trans (congrArg hX hs)) ?_
  refine dp_blk okX1_forget 0 (S' := (5, [some (.inr (some 10))], [], (hX s1))) rfl ?_
  cases h
  exact dp_vret okX1_forget rfl rfl hk
theorem c_X1_forget (s : dp_Z) (o : dp_Z) (h : j_X1_forget s = some o) : dp_C 0 mX1_forget false [.inr (some 10)] (hX s) 0 0 (dp_R none (hX o)) := dp_C_of okX1_forget [some (.inr (some 10))] rfl (Nat.le_of_ble_eq_true rfl) (we_X1_forget s o h ⟨rfl, rfl⟩)
def jb_X1_place_2 (s : dp_Z) (v1 : Int32) (x : Int32) : Option (Int32 ⊕ ((Int32 × dp_Z) ⊕ Unit)) := (if (s.1 13) ≤ x then (some (.inr (.inr ()))) else (if dp_inb x 6 = true then (if ((s.2 6) (x).toNatClampNeg) = v1 then (some (.inr (.inl (x, s)))) else (some (.inl (x + (1 : Int32))))) else none))
set_option maxHeartbeats 1000000 in
set_option maxRecDepth 20000 in
theorem wl_X1_place_2 {post : Option dp_V → dp_H → Prop} {h0 : dp_H} (s : dp_Z) (v1 : Int32) (x : Int32) (o : (Int32 ⊕ ((Int32 × dp_Z) ⊕ Unit))) (h : jb_X1_place_2 s v1 x = some o) (hk : dp_LK (fun x : Int32 => dp_W 1 mX1_place false h0 0 0 post 0 0 (2, [some (.inr (some 10)), some (.inl v1), some (.inl x)], [], (hX s))) (dp_LK (fun o : (Int32 × dp_Z) => post (some (.inl o.1)) (hX o.2)) (fun x : Unit => dp_W 1 mX1_place false h0 0 0 post 0 0 (28, [some (.inr (some 10)), some (.inl v1), none], [], (hX s)))) o) : dp_W 1 mX1_place false h0 0 0 post 0 0 (2, [some (.inr (some 10)), some (.inl v1), some (.inl x)], [], (hX s)) := by
  unfold jb_X1_place_2 at h
  refine dp_blk okX1_place 3 (S' := (7, [some (.inr (some 10)), some (.inl v1), some (.inl x)], [.inl (s.1 13), .inl x], (hX s))) rfl ?_
  refine dp_if okX1_place rfl (fun (c : (s.1 13) ≤ x) => ?_) (fun (c : ¬ (s.1 13) ≤ x) => ?_)
  · have h := dp_ip c h
    refine dp_blk okX1_place 0 (S' := (28, [some (.inr (some 10)), some (.inl v1), some (.inl x)], [], (hX s))) rfl ?_
    cases h
    refine dp_fg [true, true, false] (L' := [some (.inr (some 10)), some (.inl v1), none]) rfl rfl ?_
    exact hk
  · have h := dp_ic c h
    refine dp_blk okX1_place 3 (S' := (15, [some (.inr (some 10)), some (.inl v1), some (.inl x)], [.inl x, .inr (some 11)], (hX s))) rfl ?_
    obtain ⟨hi, h⟩ := dp_ite h
    refine dp_ial (g := (s.2 6)) okX1_place rfl rfl (dp_inb_in hi) ?_
    refine dp_blk okX1_place 1 (S' := (17, [some (.inr (some 10)), some (.inl v1), some (.inl x)], [.inl v1, .inl ((s.2 6) (x).toNatClampNeg)], (hX s))) rfl ?_
    refine dp_if okX1_place rfl (fun (c : ¬ ((s.2 6) (x).toNatClampNeg) = v1) => ?_) (fun (c : ((s.2 6) (x).toNatClampNeg) = v1) => ?_)
    · have h := dp_ic c h
      refine dp_blk okX1_place 2 (S' := (2, [some (.inr (some 10)), some (.inl v1), some (.inl (x + (1 : Int32)))], [], (hX s))) rfl ?_
      cases h
      exact hk
    · have h := dp_ip c h
      refine dp_blk okX1_place 1 (S' := (21, [some (.inr (some 10)), some (.inl v1), some (.inl x)], [.inl x], (hX s))) rfl ?_
      cases h
      exact dp_iret okX1_place rfl rfl hk
def jj_X1_place_56 (s : dp_Z) (v1 : Int32) : Option (Int32 × dp_Z) := (if dp_inb (s.1 13) 6 = true then (dp_bd (some (dp_sr s 6 (upd (s.2 6) ((s.1 13)).toNatClampNeg v1))) fun s2 => (dp_bd (some (dp_sf s2 13 ((s2.1 13) + (1 : Int32)))) fun s3 => (some (((s3.1 13) - (1 : Int32)), s3)))) else none)
set_option maxHeartbeats 1000000 in
set_option maxRecDepth 20000 in
theorem wj_X1_place_56 {post : Option dp_V → dp_H → Prop} {h0 : dp_H} (s : dp_Z) (v1 : Int32) (o : (Int32 × dp_Z)) (h : jj_X1_place_56 s v1 = some o) (hk : post (some (.inl o.1)) (hX o.2)) : dp_W 1 mX1_place false h0 0 0 post 0 0 (56, [some (.inr (some 10)), some (.inl v1), none], [], (hX s)) := by
  unfold jj_X1_place_56 at h
  refine dp_blk okX1_place 5 (S' := (65, [some (.inr (some 10)), some (.inl v1), none], [.inl v1, .inl (s.1 13), .inr (some 11)], (hX s))) rfl ?_
  obtain ⟨hi, h⟩ := dp_ite h
  obtain ⟨s2, hs, h⟩ := dp_bd_inv h
  have hs := Option.some.inj hs
  refine dp_iase (g := (s.2 6)) okX1_place rfl rfl (dp_inb_in hi) ((ahX_6 s _).trans (congrArg hX hs)) ?_
  refine dp_blk okX1_place 5 (S' := (73, [some (.inr (some 10)), some (.inl v1), none], [.inl ((s2.1 13) + (1 : Int32)), .inr (some 10)], (hX s2))) rfl ?_
  obtain ⟨s3, hs, h⟩ := dp_bd_inv h
  have hs := Option.some.inj hs
  refine dp_pfe okX1_place rfl (by decide) (qhX_10 s2) (Nat.le_of_ble_eq_true rfl) ((phX_13 s2 ((s2.1 13) + (1 : Int32))).trans (congrArg hX hs)) ?_
  refine dp_blk okX1_place 4 (S' := (82, [some (.inr (some 10)), some (.inl v1), none], [.inl ((s3.1 13) - (1 : Int32))], (hX s3))) rfl ?_
  cases h
  exact dp_iret okX1_place rfl rfl hk
def j_X1_place (s : dp_Z) (v1 : Int32) : Option (Int32 × dp_Z) := (dp_bd (dp_loop (jb_X1_place_2 s v1) dp_F (0 : Int32)) fun x => Sum.elim (fun x1 => (some x1)) (fun x1 => (if (s.1 13) < (6 : Int32) then (jj_X1_place_56 s v1) else (if dp_cpk (1 : Int32) (0 : Int32) (5 : Int32) 6 6 = true then (dp_bd (some (dp_sr s 6 (va_cpy (s.2 6) (s.2 6) ((1 : Int32)).toNatClampNeg ((0 : Int32)).toNatClampNeg ((5 : Int32)).toNatClampNeg))) fun s4 => (dp_bd (some (dp_sf s4 13 (5 : Int32))) fun s5 => (jj_X1_place_56 s5 v1))) else none))) x)
set_option maxHeartbeats 1000000 in
set_option maxRecDepth 20000 in
theorem we_X1_place {post : Option dp_V → dp_H → Prop} {h0 : dp_H} (s : dp_Z) (v1 : Int32) (o : (Int32 × dp_Z)) (h : j_X1_place s v1 = some o) (hk : post (some (.inl o.1)) (hX o.2)) : dp_W 1 mX1_place false h0 0 0 post 0 0 (0, [some (.inr (some 10)), some (.inl v1), none], [], (hX s)) := by
  unfold j_X1_place at h
  refine dp_blk okX1_place 2 (S' := (2, [some (.inr (some 10)), some (.inl v1), some (.inl (0 : Int32))], [], (hX s))) rfl ?_
  obtain ⟨x1, hl, h⟩ := dp_bd_inv h
  refine dp_loopW (wl_X1_place_2 s v1) dp_F (0 : Int32) x1 hl ?_
  rcases x1 with x1 | x1
  · simp only [Sum.elim_inl] at h
    cases h
    exact hk
  · simp only [Sum.elim_inr] at h
    show dp_W 1 mX1_place false h0 0 0 post 0 0 (28, [some (.inr (some 10)), some (.inl v1), none], [], (hX s))
    refine dp_blk okX1_place 3 (S' := (34, [some (.inr (some 10)), some (.inl v1), none], [.inl (6 : Int32), .inl (s.1 13)], (hX s))) rfl ?_
    refine dp_if okX1_place rfl (fun (c : (s.1 13) < (6 : Int32)) => ?_) (fun (c : ¬ (s.1 13) < (6 : Int32)) => ?_)
    · have h := dp_ip c h
      refine dp_blk okX1_place 0 (S' := (56, [some (.inr (some 10)), some (.inl v1), none], [], (hX s))) rfl ?_
      exact wj_X1_place_56 s v1 _ h hk
    · have h := dp_ic c h
      refine dp_blk okX1_place 7 (S' := (48, [some (.inr (some 10)), some (.inl v1), none], [.inl (5 : Int32), .inl (0 : Int32), .inr (some 11), .inl (1 : Int32), .inr (some 11)], (hX s))) rfl ?_
      obtain ⟨hi, h⟩ := dp_ite h
      obtain ⟨s4, hs, h⟩ := dp_bd_inv h
      have hs := Option.some.inj hs
      refine dp_acopye (g0 := (s.2 6)) (g1 := (s.2 6)) okX1_place rfl dq_473 dq_475 dq_474 dq_49 rfl rfl (of_decide_eq_true hi) (Nat.le_of_ble_eq_true rfl) (Nat.le_of_ble_eq_true rfl) ((ahX_6 s _).trans (congrArg hX hs)) ?_
      refine dp_blk okX1_place 2 (S' := (53, [some (.inr (some 10)), some (.inl v1), none], [.inl (5 : Int32), .inr (some 10)], (hX s4))) rfl ?_
      obtain ⟨s5, hs, h⟩ := dp_bd_inv h
      have hs := Option.some.inj hs
      refine dp_pfe okX1_place rfl (by decide) (qhX_10 s4) (Nat.le_of_ble_eq_true rfl) ((phX_13 s4 (5 : Int32)).trans (congrArg hX hs)) ?_
      refine dp_blk okX1_place 0 (S' := (56, [some (.inr (some 10)), some (.inl v1), none], [], (hX s5))) rfl ?_
      exact wj_X1_place_56 s5 v1 _ h hk
theorem c_X1_place (s : dp_Z) (v1 : Int32) (o : (Int32 × dp_Z)) (h : j_X1_place s v1 = some o) : dp_C 1 mX1_place false [.inr (some 10), .inl v1] (hX s) 0 0 (dp_R (some (.inl o.1)) (hX o.2)) := dp_C_of okX1_place [some (.inr (some 10)), some (.inl v1), none] rfl (Nat.le_of_ble_eq_true rfl) (we_X1_place s v1 o h ⟨rfl, rfl⟩)
def jj_X3_slotsNear_50 (s : dp_Z) (v2 v3 v4 : Int32) : Option ((Int32 × Int32) ⊕ Int32) := (some (.inl (v3, (v4 + (1 : Int32)))))
set_option maxHeartbeats 1000000 in
set_option maxRecDepth 20000 in
theorem wj_X3_slotsNear_50 {post : Option dp_V → dp_H → Prop} {h0 : dp_H} (s : dp_Z) (v2 v3 v4 : Int32) (o : ((Int32 × Int32) ⊕ Int32)) (h : jj_X3_slotsNear_50 s v2 v3 v4 = some o) (hk : dp_LK (fun x : (Int32 × Int32) => dp_W 2 mX3_slotsNear false h0 0 0 post 0 0 (5, [some (.inr (some 4)), some (.inr (some 1)), some (.inl v2), some (.inl x.1), some (.inl x.2)], [], (hX s))) (fun x : Int32 => dp_W 2 mX3_slotsNear false h0 0 0 post 0 0 (56, [none, none, none, some (.inl x), none], [], (hX s))) o) : dp_W 2 mX3_slotsNear false h0 0 0 post 0 0 (50, [some (.inr (some 4)), some (.inr (some 1)), some (.inl v2), some (.inl v3), some (.inl v4)], [], (hX s)) := by
  unfold jj_X3_slotsNear_50 at h
  refine dp_blk okX3_slotsNear 2 (S' := (5, [some (.inr (some 4)), some (.inr (some 1)), some (.inl v2), some (.inl v3), some (.inl (v4 + (1 : Int32)))], [], (hX s))) rfl ?_
  cases h
  exact hk
def jj_X3_slotsNear_38 (s : dp_Z) (v2 v3 v4 : Int32) : Option ((Int32 × Int32) ⊕ Int32) := (if dp_inb v4 12 = true then (dp_bd (some (v3 ||| ((1 : Int32) <<< (((s.2 2) (v4).toNatClampNeg) &&& 31)))) fun y2 => (jj_X3_slotsNear_50 s v2 y2 v4)) else none)
set_option maxHeartbeats 1000000 in
set_option maxRecDepth 20000 in
theorem wj_X3_slotsNear_38 {post : Option dp_V → dp_H → Prop} {h0 : dp_H} (s : dp_Z) (v2 v3 v4 : Int32) (o : ((Int32 × Int32) ⊕ Int32)) (h : jj_X3_slotsNear_38 s v2 v3 v4 = some o) (hk : dp_LK (fun x : (Int32 × Int32) => dp_W 2 mX3_slotsNear false h0 0 0 post 0 0 (5, [some (.inr (some 4)), some (.inr (some 1)), some (.inl v2), some (.inl x.1), some (.inl x.2)], [], (hX s))) (fun x : Int32 => dp_W 2 mX3_slotsNear false h0 0 0 post 0 0 (56, [none, none, none, some (.inl x), none], [], (hX s))) o) : dp_W 2 mX3_slotsNear false h0 0 0 post 0 0 (38, [some (.inr (some 4)), some (.inr (some 1)), some (.inl v2), some (.inl v3), some (.inl v4)], [], (hX s)) := by
  unfold jj_X3_slotsNear_38 at h
  refine dp_blk okX3_slotsNear 5 (S' := (46, [some (.inr (some 4)), some (.inr (some 1)), some (.inl v2), some (.inl v3), some (.inl v4)], [.inl v4, .inr (some 5), .inl (1 : Int32), .inl v3], (hX s))) rfl ?_
  obtain ⟨hi, h⟩ := dp_ite h
  refine dp_ial (g := (s.2 2)) okX3_slotsNear rfl rfl (dp_inb_in hi) ?_
  obtain ⟨y2, hy, h⟩ := dp_bd_inv h
  have hy := Option.some.inj hy
  refine dp_blk okX3_slotsNear 3 (S' := (50, [some (.inr (some 4)), some (.inr (some 1)), some (.inl v2), some (.inl y2), some (.inl v4)], [], (hX s))) (by subst hy; rfl) ?_
  refine dp_blk okX3_slotsNear 0 (S' := (50, [some (.inr (some 4)), some (.inr (some 1)), some (.inl v2), some (.inl y2), some (.inl v4)], [], (hX s))) rfl ?_
  exact wj_X3_slotsNear_50 s v2 y2 v4 _ h hk
def jb_X3_slotsNear_5 (s : dp_Z) (v2 : Int32) (x : (Int32 × Int32)) : Option ((Int32 × Int32) ⊕ Int32) := (if v2 ≤ x.2 then (some (.inr x.1)) else (dp_bd (j_X2_areLinked s x.2 v2) fun x1 => (if x1 = (0 : Int32) then (if dp_inb x.2 12 = true then (if dp_inb v2 12 = true then (if (((s.2 0) (x.2).toNatClampNeg) &&& ((s.2 0) (v2).toNatClampNeg)) = (0 : Int32) then (jj_X3_slotsNear_50 s v2 x.1 x.2) else (jj_X3_slotsNear_38 s v2 x.1 x.2)) else none) else none) else (jj_X3_slotsNear_38 s v2 x.1 x.2))))
set_option maxHeartbeats 1000000 in
set_option maxRecDepth 20000 in
theorem wl_X3_slotsNear_5 {post : Option dp_V → dp_H → Prop} {h0 : dp_H} (s : dp_Z) (v2 : Int32) (x : (Int32 × Int32)) (o : ((Int32 × Int32) ⊕ Int32)) (h : jb_X3_slotsNear_5 s v2 x = some o) (hk : dp_LK (fun x : (Int32 × Int32) => dp_W 2 mX3_slotsNear false h0 0 0 post 0 0 (5, [some (.inr (some 4)), some (.inr (some 1)), some (.inl v2), some (.inl x.1), some (.inl x.2)], [], (hX s))) (fun x : Int32 => dp_W 2 mX3_slotsNear false h0 0 0 post 0 0 (56, [none, none, none, some (.inl x), none], [], (hX s))) o) : dp_W 2 mX3_slotsNear false h0 0 0 post 0 0 (5, [some (.inr (some 4)), some (.inr (some 1)), some (.inl v2), some (.inl x.1), some (.inl x.2)], [], (hX s)) := by
  unfold jb_X3_slotsNear_5 at h
  refine dp_blk okX3_slotsNear 2 (S' := (8, [some (.inr (some 4)), some (.inr (some 1)), some (.inl v2), some (.inl x.1), some (.inl x.2)], [.inl v2, .inl x.2], (hX s))) rfl ?_
  refine dp_if okX3_slotsNear rfl (fun (c : v2 ≤ x.2) => ?_) (fun (c : ¬ v2 ≤ x.2) => ?_)
  · have h := dp_ip c h
    refine dp_blk okX3_slotsNear 0 (S' := (56, [some (.inr (some 4)), some (.inr (some 1)), some (.inl v2), some (.inl x.1), some (.inl x.2)], [], (hX s))) rfl ?_
    cases h
    refine dp_fg [false, false, false, true, false] (L' := [none, none, none, some (.inl x.1), none]) rfl rfl ?_
    exact hk
  · have h := dp_ic c h
    refine dp_blk okX3_slotsNear 3 (S' := (15, [some (.inr (some 4)), some (.inr (some 1)), some (.inl v2), some (.inl x.1), some (.inl x.2)], [.inl v2, .inl x.2, .inr (some 1)], (hX s))) rfl ?_
    obtain ⟨x1, hc, h⟩ := dp_bd_inv h
    refine dp_cV okX3_slotsNear okX2_areLinked (as := [.inl x.2, .inl v2]) (r := []) rfl lk_NearLiars_Run_69 npX2_areLinked (c_X2_areLinked s x.2 v2 x1 hc) rfl rfl rfl rfl (Nat.le_of_ble_eq_true rfl) (Nat.le_of_ble_eq_true rfl) (Nat.le_refl _) (Nat.le_refl _) ?_
    refine dp_blk okX3_slotsNear 0 (S' := (18, [some (.inr (some 4)), some (.inr (some 1)), some (.inl v2), some (.inl x.1), some (.inl x.2)], [.inl x1], (hX s))) rfl ?_
    refine dp_if0 okX3_slotsNear rfl (fun (c : ¬ x1 = (0 : Int32)) => ?_) (fun (c : x1 = (0 : Int32)) => ?_)
    · have h := dp_ic c h
      refine dp_blk okX3_slotsNear 0 (S' := (38, [some (.inr (some 4)), some (.inr (some 1)), some (.inl v2), some (.inl x.1), some (.inl x.2)], [], (hX s))) rfl ?_
      exact wj_X3_slotsNear_38 s v2 x.1 x.2 _ h hk
    · have h := dp_ip c h
      refine dp_blk okX3_slotsNear 3 (S' := (27, [some (.inr (some 4)), some (.inr (some 1)), some (.inl v2), some (.inl x.1), some (.inl x.2)], [.inl x.2, .inr (some 2)], (hX s))) rfl ?_
      obtain ⟨hi, h⟩ := dp_ite h
      refine dp_ial (g := (s.2 0)) okX3_slotsNear rfl rfl (dp_inb_in hi) ?_
      refine dp_blk okX3_slotsNear 3 (S' := (33, [some (.inr (some 4)), some (.inr (some 1)), some (.inl v2), some (.inl x.1), some (.inl x.2)], [.inl v2, .inr (some 2), .inl ((s.2 0) (x.2).toNatClampNeg)], (hX s))) rfl ?_
      obtain ⟨hi, h⟩ := dp_ite h
      refine dp_ial (g := (s.2 0)) okX3_slotsNear rfl rfl (dp_inb_in hi) ?_
      refine dp_blk okX3_slotsNear 1 (S' := (35, [some (.inr (some 4)), some (.inr (some 1)), some (.inl v2), some (.inl x.1), some (.inl x.2)], [.inl (((s.2 0) (x.2).toNatClampNeg) &&& ((s.2 0) (v2).toNatClampNeg))], (hX s))) rfl ?_
      refine dp_if0 okX3_slotsNear rfl (fun (c : (((s.2 0) (x.2).toNatClampNeg) &&& ((s.2 0) (v2).toNatClampNeg)) = (0 : Int32)) => ?_) (fun (c : ¬ (((s.2 0) (x.2).toNatClampNeg) &&& ((s.2 0) (v2).toNatClampNeg)) = (0 : Int32)) => ?_)
      · have h := dp_ip c h
        refine dp_blk okX3_slotsNear 0 (S' := (50, [some (.inr (some 4)), some (.inr (some 1)), some (.inl v2), some (.inl x.1), some (.inl x.2)], [], (hX s))) rfl ?_
        exact wj_X3_slotsNear_50 s v2 x.1 x.2 _ h hk
      · have h := dp_ic c h
        refine dp_blk okX3_slotsNear 0 (S' := (38, [some (.inr (some 4)), some (.inr (some 1)), some (.inl v2), some (.inl x.1), some (.inl x.2)], [], (hX s))) rfl ?_
        exact wj_X3_slotsNear_38 s v2 x.1 x.2 _ h hk
def j_X3_slotsNear (s : dp_Z) (v2 : Int32) : Option Int32 := (dp_bd (dp_loop (jb_X3_slotsNear_5 s v2) dp_F ((0 : Int32), (0 : Int32))) fun x3 => (some x3))
set_option maxHeartbeats 1000000 in
set_option maxRecDepth 20000 in
theorem we_X3_slotsNear {post : Option dp_V → dp_H → Prop} {h0 : dp_H} (s : dp_Z) (v2 : Int32) (o : Int32) (h : j_X3_slotsNear s v2 = some o) (hk : post (some (.inl o)) (hX s)) : dp_W 2 mX3_slotsNear false h0 0 0 post 0 0 (0, [some (.inr (some 4)), some (.inr (some 1)), some (.inl v2), none, none], [], (hX s)) := by
  unfold j_X3_slotsNear at h
  refine dp_blk okX3_slotsNear 4 (S' := (5, [some (.inr (some 4)), some (.inr (some 1)), some (.inl v2), some (.inl (0 : Int32)), some (.inl (0 : Int32))], [], (hX s))) rfl ?_
  obtain ⟨x3, hl, h⟩ := dp_bd_inv h
  refine dp_loopW (wl_X3_slotsNear_5 s v2) dp_F ((0 : Int32), (0 : Int32)) x3 hl ?_
  show dp_W 2 mX3_slotsNear false h0 0 0 post 0 0 (56, [none, none, none, some (.inl x3), none], [], (hX s))
  refine dp_blk okX3_slotsNear 1 (S' := (57, [none, none, none, some (.inl x3), none], [.inl x3], (hX s))) rfl ?_
  cases h
  exact dp_iret okX3_slotsNear rfl rfl hk
theorem c_X3_slotsNear (s : dp_Z) (v2 : Int32) (o : Int32) (h : j_X3_slotsNear s v2 = some o) : dp_C 2 mX3_slotsNear false [.inr (some 4), .inr (some 1), .inl v2] (hX s) 0 0 (dp_R (some (.inl o)) (hX s)) := dp_C_of okX3_slotsNear [some (.inr (some 4)), some (.inr (some 1)), some (.inl v2), none, none] rfl (Nat.le_of_ble_eq_true rfl) (we_X3_slotsNear s v2 o h ⟨rfl, rfl⟩)
def jb_X3_leastFree_2 (v0 : Int32) (x : Int32) : Option (Int32 ⊕ Int32) := (if (12 : Int32) ≤ x then (some (.inr x)) else (dp_bd (j_X5_isIn x v0) fun x1 => (if x1 = (0 : Int32) then (some (.inr x)) else (some (.inl (x + (1 : Int32)))))))
set_option maxHeartbeats 1000000 in
set_option maxRecDepth 20000 in
theorem wl_X3_leastFree_2 {post : Option dp_V → dp_H → Prop} {h0 : dp_H} (hh : dp_H) (v0 : Int32) (x : Int32) (o : (Int32 ⊕ Int32)) (h : jb_X3_leastFree_2 v0 x = some o) (hk : dp_LK (fun x : Int32 => dp_W 1 mX3_leastFree false h0 0 0 post 0 0 (2, [some (.inl v0), some (.inl x)], [], hh)) (fun x : Int32 => dp_W 1 mX3_leastFree false h0 0 0 post 0 0 (22, [none, some (.inl x)], [], hh)) o) : dp_W 1 mX3_leastFree false h0 0 0 post 0 0 (2, [some (.inl v0), some (.inl x)], [], hh) := by
  unfold jb_X3_leastFree_2 at h
  refine dp_blk okX3_leastFree 2 (S' := (5, [some (.inl v0), some (.inl x)], [.inl (12 : Int32), .inl x], hh)) rfl ?_
  refine dp_if okX3_leastFree rfl (fun (c : (12 : Int32) ≤ x) => ?_) (fun (c : ¬ (12 : Int32) ≤ x) => ?_)
  · have h := dp_ip c h
    refine dp_blk okX3_leastFree 0 (S' := (22, [some (.inl v0), some (.inl x)], [], hh)) rfl ?_
    cases h
    refine dp_fg [false, true] (L' := [none, some (.inl x)]) rfl rfl ?_
    exact hk
  · have h := dp_ic c h
    refine dp_blk okX3_leastFree 2 (S' := (10, [some (.inl v0), some (.inl x)], [.inl v0, .inl x], hh)) rfl ?_
    obtain ⟨x1, hc, h⟩ := dp_bd_inv h
    refine dp_cSN okX3_leastFree okX5_isIn (as := [.inl x, .inl v0]) (r := []) rfl lk_NearLiars_Run_76 npX5_isIn (c_X5_isIn hh x v0 x1 hc) rfl (Nat.le_of_ble_eq_true rfl) (Nat.le_of_ble_eq_true rfl) (Nat.le_refl _) (Nat.le_refl _) ?_
    refine dp_blk okX3_leastFree 0 (S' := (13, [some (.inl v0), some (.inl x)], [.inl x1], hh)) rfl ?_
    refine dp_if0 okX3_leastFree rfl (fun (c : x1 = (0 : Int32)) => ?_) (fun (c : ¬ x1 = (0 : Int32)) => ?_)
    · have h := dp_ip c h
      refine dp_blk okX3_leastFree 0 (S' := (22, [some (.inl v0), some (.inl x)], [], hh)) rfl ?_
      cases h
      refine dp_fg [false, true] (L' := [none, some (.inl x)]) rfl rfl ?_
      exact hk
    · have h := dp_ic c h
      refine dp_blk okX3_leastFree 2 (S' := (2, [some (.inl v0), some (.inl (x + (1 : Int32)))], [], hh)) rfl ?_
      cases h
      exact hk
def j_X3_leastFree (v0 : Int32) : Option Int32 := (dp_bd (dp_loop (jb_X3_leastFree_2 v0) dp_F (0 : Int32)) fun x2 => (some x2))
set_option maxHeartbeats 1000000 in
set_option maxRecDepth 20000 in
theorem we_X3_leastFree {post : Option dp_V → dp_H → Prop} {h0 : dp_H} (hh : dp_H) (v0 : Int32) (o : Int32) (h : j_X3_leastFree v0 = some o) (hk : post (some (.inl o)) hh) : dp_W 1 mX3_leastFree false h0 0 0 post 0 0 (0, [some (.inl v0), none], [], hh) := by
  unfold j_X3_leastFree at h
  refine dp_blk okX3_leastFree 2 (S' := (2, [some (.inl v0), some (.inl (0 : Int32))], [], hh)) rfl ?_
  obtain ⟨x2, hl, h⟩ := dp_bd_inv h
  refine dp_loopW (wl_X3_leastFree_2 hh v0) dp_F (0 : Int32) x2 hl ?_
  show dp_W 1 mX3_leastFree false h0 0 0 post 0 0 (22, [none, some (.inl x2)], [], hh)
  refine dp_blk okX3_leastFree 1 (S' := (23, [none, some (.inl x2)], [.inl x2], hh)) rfl ?_
  cases h
  exact dp_iret okX3_leastFree rfl rfl hk
theorem c_X3_leastFree (hh : dp_H) (v0 : Int32) (o : Int32) (h : j_X3_leastFree v0 = some o) : dp_C 1 mX3_leastFree false [.inl v0] hh 0 0 (dp_R (some (.inl o)) hh) := dp_C_of okX3_leastFree [some (.inl v0), none] rfl (Nat.le_of_ble_eq_true rfl) (we_X3_leastFree hh v0 o h ⟨rfl, rfl⟩)
def jb_X3_dealSlots_7 (x : (dp_Z × Int32)) : Option ((dp_Z × Int32) ⊕ dp_Z) := (if (x.1.1 0) ≤ x.2 then (some (.inr x.1)) else (dp_bd (j_X3_slotsNear x.1 x.2) fun x2 => (dp_bd (j_X3_leastFree x2) fun x3 => (if dp_inb x.2 12 = true then (dp_bd (some (dp_sr x.1 2 (upd (x.1.2 2) (x.2).toNatClampNeg x3))) fun s4 => (if dp_inb x.2 12 = true then (dp_bd (some (dp_sf s4 6 (if (s4.1 6) < (((s4.2 2) (x.2).toNatClampNeg) + (1 : Int32)) then (((s4.2 2) (x.2).toNatClampNeg) + (1 : Int32)) else (s4.1 6)))) fun s5 => (some (.inl (s5, (x.2 + (1 : Int32)))))) else none)) else none))))
set_option maxHeartbeats 1000000 in
set_option maxRecDepth 20000 in
theorem wl_X3_dealSlots_7 {post : Option dp_V → dp_H → Prop} {h0 : dp_H} (x : (dp_Z × Int32)) (o : ((dp_Z × Int32) ⊕ dp_Z)) (h : jb_X3_dealSlots_7 x = some o) (hk : dp_LK (fun x : (dp_Z × Int32) => dp_W 3 mX3_dealSlots false h0 0 0 post 0 0 (7, [some (.inr (some 4)), some (.inr (some 1)), some (.inl x.2)], [], (hX x.1))) (fun x : dp_Z => dp_W 3 mX3_dealSlots false h0 0 0 post 0 0 (55, [none, none, none], [], (hX x))) o) : dp_W 3 mX3_dealSlots false h0 0 0 post 0 0 (7, [some (.inr (some 4)), some (.inr (some 1)), some (.inl x.2)], [], (hX x.1)) := by
  unfold jb_X3_dealSlots_7 at h
  refine dp_blk okX3_dealSlots 3 (S' := (12, [some (.inr (some 4)), some (.inr (some 1)), some (.inl x.2)], [.inl (x.1.1 0), .inl x.2], (hX x.1))) rfl ?_
  refine dp_if okX3_dealSlots rfl (fun (c : (x.1.1 0) ≤ x.2) => ?_) (fun (c : ¬ (x.1.1 0) ≤ x.2) => ?_)
  · have h := dp_ip c h
    refine dp_blk okX3_dealSlots 0 (S' := (55, [some (.inr (some 4)), some (.inr (some 1)), some (.inl x.2)], [], (hX x.1))) rfl ?_
    cases h
    refine dp_fg [false, false, false] (L' := [none, none, none]) rfl rfl ?_
    exact hk
  · have h := dp_ic c h
    refine dp_blk okX3_dealSlots 6 (S' := (23, [some (.inr (some 4)), some (.inr (some 1)), some (.inl x.2)], [.inl x.2, .inr (some 1), .inr (some 4), .inl x.2, .inr (some 5)], (hX x.1))) rfl ?_
    obtain ⟨x2, hc, h⟩ := dp_bd_inv h
    refine dp_cV okX3_dealSlots okX3_slotsNear (as := [.inr (some 1), .inl x.2]) (r := [.inl x.2, .inr (some 5)]) rfl lk_NearLiars_Run_55 npX3_slotsNear (c_X3_slotsNear x.1 x.2 x2 hc) rfl rfl rfl rfl (Nat.le_of_ble_eq_true rfl) (Nat.le_of_ble_eq_true rfl) (Nat.le_refl _) (Nat.le_refl _) ?_
    refine dp_blk okX3_dealSlots 0 (S' := (26, [some (.inr (some 4)), some (.inr (some 1)), some (.inl x.2)], [.inl x2, .inl x.2, .inr (some 5)], (hX x.1))) rfl ?_
    obtain ⟨x3, hc, h⟩ := dp_bd_inv h
    refine dp_cS okX3_dealSlots okX3_leastFree (as := [.inl x2]) (r := [.inl x.2, .inr (some 5)]) rfl lk_NearLiars_Run_59 npX3_leastFree (c_X3_leastFree (hX x.1) x2 x3 hc) rfl (Nat.le_of_ble_eq_true rfl) (Nat.le_of_ble_eq_true rfl) (Nat.le_refl _) (Nat.le_refl _) ?_
    refine dp_blk okX3_dealSlots 0 (S' := (29, [some (.inr (some 4)), some (.inr (some 1)), some (.inl x.2)], [.inl x3, .inl x.2, .inr (some 5)], (hX x.1))) rfl ?_
    obtain ⟨hi, h⟩ := dp_ite h
    obtain ⟨s4, hs, h⟩ := dp_bd_inv h
    have hs := Option.some.inj hs
    refine dp_iase (g := (x.1.2 2)) okX3_dealSlots rfl rfl (dp_inb_in hi) ((ahX_2 x.1 _).trans (congrArg hX hs)) ?_
    refine dp_blk okX3_dealSlots 6 (S' := (40, [some (.inr (some 4)), some (.inr (some 1)), some (.inl x.2)], [.inl x.2, .inr (some 5), .inl (s4.1 6), .inr (some 4)], (hX s4))) rfl ?_
    obtain ⟨hi, h⟩ := dp_ite h
    refine dp_ial (g := (s4.2 2)) okX3_dealSlots rfl rfl (dp_inb_in hi) ?_
    refine dp_blk okX3_dealSlots 2 (S' := (43, [some (.inr (some 4)), some (.inr (some 1)), some (.inl x.2)], [.inl (((s4.2 2) (x.2).toNatClampNeg) + (1 : Int32)), .inl (s4.1 6), .inr (some 4)], (hX s4))) rfl ?_
    refine dp_mmax okX3_dealSlots rfl dq_253 dq_254 dq_42 dq_255 (Nat.le_of_ble_eq_true rfl) (Nat.le_of_ble_eq_true rfl) (Nat.le_refl _) (Nat.le_refl _) ?_
    refine dp_blk okX3_dealSlots 0 (S' := (46, [some (.inr (some 4)), some (.inr (some 1)), some (.inl x.2)], [.inl (if (s4.1 6) < (((s4.2 2) (x.2).toNatClampNeg) + (1 : Int32)) then (((s4.2 2) (x.2).toNatClampNeg) + (1 : Int32)) else (s4.1 6)), .inr (some 4)], (hX s4))) rfl ?_
    obtain ⟨s5, hs, h⟩ := dp_bd_inv h
    have hs := Option.some.inj hs
    refine dp_pfe okX3_dealSlots rfl (by decide) (qhX_4 s4) (Nat.le_of_ble_eq_true rfl) ((phX_6 s4 (if (s4.1 6) < (((s4.2 2) (x.2).toNatClampNeg) + (1 : Int32)) then (((s4.2 2) (x.2).toNatClampNeg) + (1 : Int32)) else (s4.1 6))).trans (congrArg hX hs)) ?_
    refine dp_blk okX3_dealSlots 2 (S' := (7, [some (.inr (some 4)), some (.inr (some 1)), some (.inl (x.2 + (1 : Int32)))], [], (hX s5))) rfl ?_
    cases h
    exact hk
def j_X3_dealSlots (s : dp_Z) : Option dp_Z := (dp_bd (some (dp_sf s 6 (1 : Int32))) fun s1 => (dp_bd (dp_loop (jb_X3_dealSlots_7) dp_F (s1, (0 : Int32))) fun x6 => (some x6)))
set_option maxHeartbeats 1000000 in
set_option maxRecDepth 20000 in
theorem we_X3_dealSlots {post : Option dp_V → dp_H → Prop} {h0 : dp_H} (s : dp_Z) (o : dp_Z) (h : j_X3_dealSlots s = some o) (hk : post none (hX o)) : dp_W 3 mX3_dealSlots false h0 0 0 post 0 0 (0, [some (.inr (some 4)), some (.inr (some 1)), none], [], (hX s)) := by
  unfold j_X3_dealSlots at h
  refine dp_blk okX3_dealSlots 2 (S' := (2, [some (.inr (some 4)), some (.inr (some 1)), none], [.inl (1 : Int32), .inr (some 4)], (hX s))) rfl ?_
  obtain ⟨s1, hs, h⟩ := dp_bd_inv h
  have hs := Option.some.inj hs
  refine dp_pfe okX3_dealSlots rfl (by decide) (qhX_4 s) (Nat.le_of_ble_eq_true rfl) ((phX_6 s (1 : Int32)).trans (congrArg hX hs)) ?_
  refine dp_blk okX3_dealSlots 2 (S' := (7, [some (.inr (some 4)), some (.inr (some 1)), some (.inl (0 : Int32))], [], (hX s1))) rfl ?_
  obtain ⟨x6, hl, h⟩ := dp_bd_inv h
  refine dp_loopW (wl_X3_dealSlots_7) dp_F (s1, (0 : Int32)) x6 hl ?_
  show dp_W 3 mX3_dealSlots false h0 0 0 post 0 0 (55, [none, none, none], [], (hX x6))
  refine dp_blk okX3_dealSlots 0 (S' := (55, [none, none, none], [], (hX x6))) rfl ?_
  cases h
  exact dp_vret okX3_dealSlots rfl rfl hk
theorem c_X3_dealSlots (s : dp_Z) (o : dp_Z) (h : j_X3_dealSlots s = some o) : dp_C 3 mX3_dealSlots false [.inr (some 4), .inr (some 1)] (hX s) 0 0 (dp_R none (hX o)) := dp_C_of okX3_dealSlots [some (.inr (some 4)), some (.inr (some 1)), none] rfl (Nat.le_of_ble_eq_true rfl) (we_X3_dealSlots s o h ⟨rfl, rfl⟩)
def jb_J7_fill_53178_q6_5 (v1 v3 : Int32) (x : (dp_Z × Int32)) : Option ((dp_Z × Int32) ⊕ dp_Z) := (if v3 ≤ x.2 then (some (.inr x.1)) else (if dp_inb x.2 12 = true then (dp_bd (some (dp_sr x.1 3 (upd (x.1.2 3) (x.2).toNatClampNeg v1))) fun s1 => (some (.inl (s1, (x.2 + (1 : Int32)))))) else none))
set_option maxHeartbeats 1000000 in
set_option maxRecDepth 20000 in
theorem wl_J7_fill_53178_q6_5 {post : Option dp_V → dp_H → Prop} {h0 : dp_H} (v1 v3 : Int32) (x : (dp_Z × Int32)) (o : ((dp_Z × Int32) ⊕ dp_Z)) (h : jb_J7_fill_53178_q6_5 v1 v3 x = some o) (hk : dp_LK (fun x : (dp_Z × Int32) => dp_W 0 mJ7_fill_53178 false h0 0 0 post 0 0 (5, [some (.inr (some 6)), some (.inl v1), some (.inl x.2), some (.inl v3)], [], (hX x.1))) (fun x : dp_Z => dp_W 0 mJ7_fill_53178 false h0 0 0 post 0 0 (20, [none, none, none, none], [], (hX x))) o) : dp_W 0 mJ7_fill_53178 false h0 0 0 post 0 0 (5, [some (.inr (some 6)), some (.inl v1), some (.inl x.2), some (.inl v3)], [], (hX x.1)) := by
  unfold jb_J7_fill_53178_q6_5 at h
  refine dp_blk okJ7_fill_53178 2 (S' := (7, [some (.inr (some 6)), some (.inl v1), some (.inl x.2), some (.inl v3)], [.inl v3, .inl x.2], (hX x.1))) rfl ?_
  refine dp_if okJ7_fill_53178 rfl (fun (c : v3 ≤ x.2) => ?_) (fun (c : ¬ v3 ≤ x.2) => ?_)
  · have h := dp_ip c h
    refine dp_blk okJ7_fill_53178 0 (S' := (20, [some (.inr (some 6)), some (.inl v1), some (.inl x.2), some (.inl v3)], [], (hX x.1))) rfl ?_
    cases h
    refine dp_fg [false, false, false, false] (L' := [none, none, none, none]) rfl rfl ?_
    exact hk
  · have h := dp_ic c h
    refine dp_blk okJ7_fill_53178 3 (S' := (13, [some (.inr (some 6)), some (.inl v1), some (.inl x.2), some (.inl v3)], [.inl v1, .inl x.2, .inr (some 6)], (hX x.1))) rfl ?_
    obtain ⟨hi, h⟩ := dp_ite h
    obtain ⟨s1, hs, h⟩ := dp_bd_inv h
    have hs := Option.some.inj hs
    refine dp_iase (g := (x.1.2 3)) okJ7_fill_53178 rfl rfl (dp_inb_in hi) ((ahX_3 x.1 _).trans (congrArg hX hs)) ?_
    refine dp_blk okJ7_fill_53178 2 (S' := (5, [some (.inr (some 6)), some (.inl v1), some (.inl (x.2 + (1 : Int32))), some (.inl v3)], [], (hX s1))) rfl ?_
    cases h
    exact hk
def j_J7_fill_53178_q6 (s : dp_Z) (v1 : Int32) : Option dp_Z := (dp_bd (dp_loop (jb_J7_fill_53178_q6_5 v1 (Int32.ofNat 12)) dp_F (s, (0 : Int32))) fun x2 => (some x2))
set_option maxHeartbeats 1000000 in
set_option maxRecDepth 20000 in
theorem we_J7_fill_53178_q6 {post : Option dp_V → dp_H → Prop} {h0 : dp_H} (s : dp_Z) (v1 : Int32) (o : dp_Z) (h : j_J7_fill_53178_q6 s v1 = some o) (hk : post none (hX o)) : dp_W 0 mJ7_fill_53178 false h0 0 0 post 0 0 (0, [some (.inr (some 6)), some (.inl v1), none, none], [], (hX s)) := by
  unfold j_J7_fill_53178_q6 at h
  refine dp_blk okJ7_fill_53178 3 (S' := (3, [some (.inr (some 6)), some (.inl v1), some (.inl (0 : Int32)), none], [.inr (some 6)], (hX s))) rfl ?_
  refine dp_aln okJ7_fill_53178 rfl rfl ?_
  refine dp_blk okJ7_fill_53178 1 (S' := (5, [some (.inr (some 6)), some (.inl v1), some (.inl (0 : Int32)), some (.inl (Int32.ofNat 12))], [], (hX s))) rfl ?_
  obtain ⟨x2, hl, h⟩ := dp_bd_inv h
  refine dp_loopW (wl_J7_fill_53178_q6_5 v1 (Int32.ofNat 12)) dp_F (s, (0 : Int32)) x2 hl ?_
  show dp_W 0 mJ7_fill_53178 false h0 0 0 post 0 0 (20, [none, none, none, none], [], (hX x2))
  refine dp_blk okJ7_fill_53178 0 (S' := (20, [none, none, none, none], [], (hX x2))) rfl ?_
  cases h
  exact dp_vret okJ7_fill_53178 rfl rfl hk
theorem c_J7_fill_53178_q6 (s : dp_Z) (v1 : Int32) (o : dp_Z) (h : j_J7_fill_53178_q6 s v1 = some o) : dp_C 0 mJ7_fill_53178 false [.inr (some 6), .inl v1] (hX s) 0 0 (dp_R none (hX o)) := dp_C_of okJ7_fill_53178 [some (.inr (some 6)), some (.inl v1), none, none] rfl (Nat.le_of_ble_eq_true rfl) (we_J7_fill_53178_q6 s v1 o h ⟨rfl, rfl⟩)
def jb_J7_fill_53178_q7_5 (v1 v3 : Int32) (x : (dp_Z × Int32)) : Option ((dp_Z × Int32) ⊕ dp_Z) := (if v3 ≤ x.2 then (some (.inr x.1)) else (if dp_inb x.2 12 = true then (dp_bd (some (dp_sr x.1 4 (upd (x.1.2 4) (x.2).toNatClampNeg v1))) fun s1 => (some (.inl (s1, (x.2 + (1 : Int32)))))) else none))
set_option maxHeartbeats 1000000 in
set_option maxRecDepth 20000 in
theorem wl_J7_fill_53178_q7_5 {post : Option dp_V → dp_H → Prop} {h0 : dp_H} (v1 v3 : Int32) (x : (dp_Z × Int32)) (o : ((dp_Z × Int32) ⊕ dp_Z)) (h : jb_J7_fill_53178_q7_5 v1 v3 x = some o) (hk : dp_LK (fun x : (dp_Z × Int32) => dp_W 0 mJ7_fill_53178 false h0 0 0 post 0 0 (5, [some (.inr (some 7)), some (.inl v1), some (.inl x.2), some (.inl v3)], [], (hX x.1))) (fun x : dp_Z => dp_W 0 mJ7_fill_53178 false h0 0 0 post 0 0 (20, [none, none, none, none], [], (hX x))) o) : dp_W 0 mJ7_fill_53178 false h0 0 0 post 0 0 (5, [some (.inr (some 7)), some (.inl v1), some (.inl x.2), some (.inl v3)], [], (hX x.1)) := by
  unfold jb_J7_fill_53178_q7_5 at h
  refine dp_blk okJ7_fill_53178 2 (S' := (7, [some (.inr (some 7)), some (.inl v1), some (.inl x.2), some (.inl v3)], [.inl v3, .inl x.2], (hX x.1))) rfl ?_
  refine dp_if okJ7_fill_53178 rfl (fun (c : v3 ≤ x.2) => ?_) (fun (c : ¬ v3 ≤ x.2) => ?_)
  · have h := dp_ip c h
    refine dp_blk okJ7_fill_53178 0 (S' := (20, [some (.inr (some 7)), some (.inl v1), some (.inl x.2), some (.inl v3)], [], (hX x.1))) rfl ?_
    cases h
    refine dp_fg [false, false, false, false] (L' := [none, none, none, none]) rfl rfl ?_
    exact hk
  · have h := dp_ic c h
    refine dp_blk okJ7_fill_53178 3 (S' := (13, [some (.inr (some 7)), some (.inl v1), some (.inl x.2), some (.inl v3)], [.inl v1, .inl x.2, .inr (some 7)], (hX x.1))) rfl ?_
    obtain ⟨hi, h⟩ := dp_ite h
    obtain ⟨s1, hs, h⟩ := dp_bd_inv h
    have hs := Option.some.inj hs
    refine dp_iase (g := (x.1.2 4)) okJ7_fill_53178 rfl rfl (dp_inb_in hi) ((ahX_4 x.1 _).trans (congrArg hX hs)) ?_
    refine dp_blk okJ7_fill_53178 2 (S' := (5, [some (.inr (some 7)), some (.inl v1), some (.inl (x.2 + (1 : Int32))), some (.inl v3)], [], (hX s1))) rfl ?_
    cases h
    exact hk
def j_J7_fill_53178_q7 (s : dp_Z) (v1 : Int32) : Option dp_Z := (dp_bd (dp_loop (jb_J7_fill_53178_q7_5 v1 (Int32.ofNat 12)) dp_F (s, (0 : Int32))) fun x2 => (some x2))
set_option maxHeartbeats 1000000 in
set_option maxRecDepth 20000 in
theorem we_J7_fill_53178_q7 {post : Option dp_V → dp_H → Prop} {h0 : dp_H} (s : dp_Z) (v1 : Int32) (o : dp_Z) (h : j_J7_fill_53178_q7 s v1 = some o) (hk : post none (hX o)) : dp_W 0 mJ7_fill_53178 false h0 0 0 post 0 0 (0, [some (.inr (some 7)), some (.inl v1), none, none], [], (hX s)) := by
  unfold j_J7_fill_53178_q7 at h
  refine dp_blk okJ7_fill_53178 3 (S' := (3, [some (.inr (some 7)), some (.inl v1), some (.inl (0 : Int32)), none], [.inr (some 7)], (hX s))) rfl ?_
  refine dp_aln okJ7_fill_53178 rfl rfl ?_
  refine dp_blk okJ7_fill_53178 1 (S' := (5, [some (.inr (some 7)), some (.inl v1), some (.inl (0 : Int32)), some (.inl (Int32.ofNat 12))], [], (hX s))) rfl ?_
  obtain ⟨x2, hl, h⟩ := dp_bd_inv h
  refine dp_loopW (wl_J7_fill_53178_q7_5 v1 (Int32.ofNat 12)) dp_F (s, (0 : Int32)) x2 hl ?_
  show dp_W 0 mJ7_fill_53178 false h0 0 0 post 0 0 (20, [none, none, none, none], [], (hX x2))
  refine dp_blk okJ7_fill_53178 0 (S' := (20, [none, none, none, none], [], (hX x2))) rfl ?_
  cases h
  exact dp_vret okJ7_fill_53178 rfl rfl hk
theorem c_J7_fill_53178_q7 (s : dp_Z) (v1 : Int32) (o : dp_Z) (h : j_J7_fill_53178_q7 s v1 = some o) : dp_C 0 mJ7_fill_53178 false [.inr (some 7), .inl v1] (hX s) 0 0 (dp_R none (hX o)) := dp_C_of okJ7_fill_53178 [some (.inr (some 7)), some (.inl v1), none, none] rfl (Nat.le_of_ble_eq_true rfl) (we_J7_fill_53178_q7 s v1 o h ⟨rfl, rfl⟩)
def jb_J7_fill_53178_q8_5 (v1 v3 : Int32) (x : (dp_Z × Int32)) : Option ((dp_Z × Int32) ⊕ dp_Z) := (if v3 ≤ x.2 then (some (.inr x.1)) else (if dp_inb x.2 48 = true then (dp_bd (some (dp_sr x.1 5 (upd (x.1.2 5) (x.2).toNatClampNeg v1))) fun s1 => (some (.inl (s1, (x.2 + (1 : Int32)))))) else none))
set_option maxHeartbeats 1000000 in
set_option maxRecDepth 20000 in
theorem wl_J7_fill_53178_q8_5 {post : Option dp_V → dp_H → Prop} {h0 : dp_H} (v1 v3 : Int32) (x : (dp_Z × Int32)) (o : ((dp_Z × Int32) ⊕ dp_Z)) (h : jb_J7_fill_53178_q8_5 v1 v3 x = some o) (hk : dp_LK (fun x : (dp_Z × Int32) => dp_W 0 mJ7_fill_53178 false h0 0 0 post 0 0 (5, [some (.inr (some 8)), some (.inl v1), some (.inl x.2), some (.inl v3)], [], (hX x.1))) (fun x : dp_Z => dp_W 0 mJ7_fill_53178 false h0 0 0 post 0 0 (20, [none, none, none, none], [], (hX x))) o) : dp_W 0 mJ7_fill_53178 false h0 0 0 post 0 0 (5, [some (.inr (some 8)), some (.inl v1), some (.inl x.2), some (.inl v3)], [], (hX x.1)) := by
  unfold jb_J7_fill_53178_q8_5 at h
  refine dp_blk okJ7_fill_53178 2 (S' := (7, [some (.inr (some 8)), some (.inl v1), some (.inl x.2), some (.inl v3)], [.inl v3, .inl x.2], (hX x.1))) rfl ?_
  refine dp_if okJ7_fill_53178 rfl (fun (c : v3 ≤ x.2) => ?_) (fun (c : ¬ v3 ≤ x.2) => ?_)
  · have h := dp_ip c h
    refine dp_blk okJ7_fill_53178 0 (S' := (20, [some (.inr (some 8)), some (.inl v1), some (.inl x.2), some (.inl v3)], [], (hX x.1))) rfl ?_
    cases h
    refine dp_fg [false, false, false, false] (L' := [none, none, none, none]) rfl rfl ?_
    exact hk
  · have h := dp_ic c h
    refine dp_blk okJ7_fill_53178 3 (S' := (13, [some (.inr (some 8)), some (.inl v1), some (.inl x.2), some (.inl v3)], [.inl v1, .inl x.2, .inr (some 8)], (hX x.1))) rfl ?_
    obtain ⟨hi, h⟩ := dp_ite h
    obtain ⟨s1, hs, h⟩ := dp_bd_inv h
    have hs := Option.some.inj hs
    refine dp_iase (g := (x.1.2 5)) okJ7_fill_53178 rfl rfl (dp_inb_in hi) ((ahX_5 x.1 _).trans (congrArg hX hs)) ?_
    refine dp_blk okJ7_fill_53178 2 (S' := (5, [some (.inr (some 8)), some (.inl v1), some (.inl (x.2 + (1 : Int32))), some (.inl v3)], [], (hX s1))) rfl ?_
    cases h
    exact hk
def j_J7_fill_53178_q8 (s : dp_Z) (v1 : Int32) : Option dp_Z := (dp_bd (dp_loop (jb_J7_fill_53178_q8_5 v1 (Int32.ofNat 48)) dp_F (s, (0 : Int32))) fun x2 => (some x2))
set_option maxHeartbeats 1000000 in
set_option maxRecDepth 20000 in
theorem we_J7_fill_53178_q8 {post : Option dp_V → dp_H → Prop} {h0 : dp_H} (s : dp_Z) (v1 : Int32) (o : dp_Z) (h : j_J7_fill_53178_q8 s v1 = some o) (hk : post none (hX o)) : dp_W 0 mJ7_fill_53178 false h0 0 0 post 0 0 (0, [some (.inr (some 8)), some (.inl v1), none, none], [], (hX s)) := by
  unfold j_J7_fill_53178_q8 at h
  refine dp_blk okJ7_fill_53178 3 (S' := (3, [some (.inr (some 8)), some (.inl v1), some (.inl (0 : Int32)), none], [.inr (some 8)], (hX s))) rfl ?_
  refine dp_aln okJ7_fill_53178 rfl rfl ?_
  refine dp_blk okJ7_fill_53178 1 (S' := (5, [some (.inr (some 8)), some (.inl v1), some (.inl (0 : Int32)), some (.inl (Int32.ofNat 48))], [], (hX s))) rfl ?_
  obtain ⟨x2, hl, h⟩ := dp_bd_inv h
  refine dp_loopW (wl_J7_fill_53178_q8_5 v1 (Int32.ofNat 48)) dp_F (s, (0 : Int32)) x2 hl ?_
  show dp_W 0 mJ7_fill_53178 false h0 0 0 post 0 0 (20, [none, none, none, none], [], (hX x2))
  refine dp_blk okJ7_fill_53178 0 (S' := (20, [none, none, none, none], [], (hX x2))) rfl ?_
  cases h
  exact dp_vret okJ7_fill_53178 rfl rfl hk
theorem c_J7_fill_53178_q8 (s : dp_Z) (v1 : Int32) (o : dp_Z) (h : j_J7_fill_53178_q8 s v1 = some o) : dp_C 0 mJ7_fill_53178 false [.inr (some 8), .inl v1] (hX s) 0 0 (dp_R none (hX o)) := dp_C_of okJ7_fill_53178 [some (.inr (some 8)), some (.inl v1), none, none] rfl (Nat.le_of_ble_eq_true rfl) (we_J7_fill_53178_q8 s v1 o h ⟨rfl, rfl⟩)
def j_X3_restart (s : dp_Z) : Option dp_Z := (dp_bd (j_X3_dealSlots s) fun x1 => (dp_bd (some (dp_sf x1 7 (0 : Int32))) fun s2 => (dp_bd (some (dp_sf s2 8 (0 : Int32))) fun s3 => (dp_bd (j_J7_fill_53178_q6 s3 (-9 : Int32)) fun x4 => (dp_bd (j_J7_fill_53178_q7 x4 (-9 : Int32)) fun x5 => (dp_bd (j_J7_fill_53178_q8 x5 (0 : Int32)) fun x6 => (if dp_inb (x6.1 3) 12 = true then (dp_bd (some (dp_sr x6 3 (upd (x6.2 3) ((x6.1 3)).toNatClampNeg (x6.1 4)))) fun s7 => (if dp_inb (s7.1 3) 12 = true then (dp_bd (some (dp_sr s7 4 (upd (s7.2 4) ((s7.1 3)).toNatClampNeg (0 : Int32)))) fun s8 => (some s8)) else none)) else none)))))))
set_option maxHeartbeats 1000000 in
set_option maxRecDepth 20000 in
theorem we_X3_restart {post : Option dp_V → dp_H → Prop} {h0 : dp_H} (s : dp_Z) (o : dp_Z) (h : j_X3_restart s = some o) (hk : post none (hX o)) : dp_W 4 mX3_restart false h0 0 0 post 0 0 (0, [some (.inr (some 4)), some (.inr (some 1))], [], (hX s)) := by
  unfold j_X3_restart at h
  refine dp_blk okX3_restart 2 (S' := (2, [some (.inr (some 4)), some (.inr (some 1))], [.inr (some 1), .inr (some 4)], (hX s))) rfl ?_
  obtain ⟨x1, hc, h⟩ := dp_bd_inv h
  refine dp_cV okX3_restart okX3_dealSlots (as := [.inr (some 1)]) (r := []) rfl lk_NearLiars_Run_34 npX3_dealSlots (c_X3_dealSlots s x1 hc) rfl rfl rfl rfl (Nat.le_of_ble_eq_true rfl) (Nat.le_of_ble_eq_true rfl) (Nat.le_refl _) (Nat.le_refl _) ?_
  refine dp_blk okX3_restart 2 (S' := (7, [some (.inr (some 4)), some (.inr (some 1))], [.inl (0 : Int32), .inr (some 4)], (hX x1))) rfl ?_
  obtain ⟨s2, hs, h⟩ := dp_bd_inv h
  have hs := Option.some.inj hs
  refine dp_pfe okX3_restart rfl (by decide) (qhX_4 x1) (Nat.le_of_ble_eq_true rfl) ((phX_7 x1 (0 : Int32)).trans (congrArg hX hs)) ?_
  refine dp_blk okX3_restart 2 (S' := (12, [some (.inr (some 4)), some (.inr (some 1))], [.inl (0 : Int32), .inr (some 4)], (hX s2))) rfl ?_
  obtain ⟨s3, hs, h⟩ := dp_bd_inv h
  have hs := Option.some.inj hs
  refine dp_pfe okX3_restart rfl (by decide) (qhX_4 s2) (Nat.le_of_ble_eq_true rfl) ((phX_8 s2 (0 : Int32)).trans (congrArg hX hs)) ?_
  refine dp_blk okX3_restart 3 (S' := (21, [some (.inr (some 4)), some (.inr (some 1))], [.inl (-9 : Int32), .inr (some 6)], (hX s3))) rfl ?_
  obtain ⟨x4, hc, h⟩ := dp_bd_inv h
  refine dp_cS okX3_restart okJ7_fill_53178 (as := [.inr (some 6), .inl (-9 : Int32)]) (r := []) rfl lk_NearLiars_Run_38 npJ7_fill_53178 (c_J7_fill_53178_q6 s3 (-9 : Int32) x4 hc) rfl (Nat.le_of_ble_eq_true rfl) (Nat.le_of_ble_eq_true rfl) (Nat.le_refl _) (Nat.le_refl _) ?_
  refine dp_blk okX3_restart 3 (S' := (30, [some (.inr (some 4)), some (.inr (some 1))], [.inl (-9 : Int32), .inr (some 7)], (hX x4))) rfl ?_
  obtain ⟨x5, hc, h⟩ := dp_bd_inv h
  refine dp_cS okX3_restart okJ7_fill_53178 (as := [.inr (some 7), .inl (-9 : Int32)]) (r := []) rfl lk_NearLiars_Run_38 npJ7_fill_53178 (c_J7_fill_53178_q7 x4 (-9 : Int32) x5 hc) rfl (Nat.le_of_ble_eq_true rfl) (Nat.le_of_ble_eq_true rfl) (Nat.le_refl _) (Nat.le_refl _) ?_
  refine dp_blk okX3_restart 3 (S' := (38, [some (.inr (some 4)), some (.inr (some 1))], [.inl (0 : Int32), .inr (some 8)], (hX x5))) rfl ?_
  obtain ⟨x6, hc, h⟩ := dp_bd_inv h
  refine dp_cS okX3_restart okJ7_fill_53178 (as := [.inr (some 8), .inl (0 : Int32)]) (r := []) rfl lk_NearLiars_Run_38 npJ7_fill_53178 (c_J7_fill_53178_q8 x5 (0 : Int32) x6 hc) rfl (Nat.le_of_ble_eq_true rfl) (Nat.le_of_ble_eq_true rfl) (Nat.le_refl _) (Nat.le_refl _) ?_
  refine dp_blk okX3_restart 6 (S' := (53, [some (.inr (some 4)), some (.inr (some 1))], [.inl (x6.1 4), .inl (x6.1 3), .inr (some 6)], (hX x6))) rfl ?_
  obtain ⟨hi, h⟩ := dp_ite h
  obtain ⟨s7, hs, h⟩ := dp_bd_inv h
  have hs := Option.some.inj hs
  refine dp_iase (g := (x6.2 3)) okX3_restart rfl rfl (dp_inb_in hi) ((ahX_3 x6 _).trans (congrArg hX hs)) ?_
  refine dp_blk okX3_restart 5 (S' := (63, [some (.inr (some 4)), some (.inr (some 1))], [.inl (0 : Int32), .inl (s7.1 3), .inr (some 7)], (hX s7))) rfl ?_
  obtain ⟨hi, h⟩ := dp_ite h
  obtain ⟨s8, hs, h⟩ := dp_bd_inv h
  have hs := Option.some.inj hs
  refine dp_iase (g := (s7.2 4)) okX3_restart rfl rfl (dp_inb_in hi) ((ahX_4 s7 _).trans (congrArg hX hs)) ?_
  refine dp_blk okX3_restart 0 (S' := (64, [some (.inr (some 4)), some (.inr (some 1))], [], (hX s8))) rfl ?_
  cases h
  exact dp_vret okX3_restart rfl rfl hk
theorem c_X3_restart (s : dp_Z) (o : dp_Z) (h : j_X3_restart s = some o) : dp_C 4 mX3_restart false [.inr (some 4), .inr (some 1)] (hX s) 0 0 (dp_R none (hX o)) := dp_C_of okX3_restart [some (.inr (some 4)), some (.inr (some 1))] rfl (Nat.le_of_ble_eq_true rfl) (we_X3_restart s o h ⟨rfl, rfl⟩)
def jj_X3_pass_78 (s : dp_Z) (v2 v3 v4 : Int32) : Option ((dp_Z × Int32 × Int32) ⊕ (dp_Z × Int32)) := (some (.inl (s, v3, (v4 + (1 : Int32)))))
set_option maxHeartbeats 1000000 in
set_option maxRecDepth 20000 in
theorem wj_X3_pass_78 {post : Option dp_V → dp_H → Prop} {h0 : dp_H} (s : dp_Z) (v2 v3 v4 : Int32) (o : ((dp_Z × Int32 × Int32) ⊕ (dp_Z × Int32))) (h : jj_X3_pass_78 s v2 v3 v4 = some o) (hk : dp_LK (fun x : (dp_Z × Int32 × Int32) => dp_W 3 mX3_pass false h0 0 0 post 0 0 (36, [some (.inr (some 4)), some (.inr (some 1)), some (.inl v2), some (.inl x.2.1), some (.inl x.2.2)], [], (hX x.1))) (fun x : (dp_Z × Int32) => dp_W 3 mX3_pass false h0 0 0 post 0 0 (84, [none, none, none, some (.inl x.2), none], [], (hX x.1))) o) : dp_W 3 mX3_pass false h0 0 0 post 0 0 (78, [some (.inr (some 4)), some (.inr (some 1)), some (.inl v2), some (.inl v3), some (.inl v4)], [], (hX s)) := by
  unfold jj_X3_pass_78 at h
  refine dp_blk okX3_pass 2 (S' := (36, [some (.inr (some 4)), some (.inr (some 1)), some (.inl v2), some (.inl v3), some (.inl (v4 + (1 : Int32)))], [], (hX s))) rfl ?_
  cases h
  exact hk
def j_X5_isValue (v0 : Int32) : Option Int32 := (if v0 < (0 : Int32) then (some (0 : Int32)) else (if (4 : Int32) ≤ v0 then (some (0 : Int32)) else (some (1 : Int32))))
set_option maxHeartbeats 1000000 in
set_option maxRecDepth 20000 in
theorem we_X5_isValue {post : Option dp_V → dp_H → Prop} {h0 : dp_H} (hh : dp_H) (v0 : Int32) (o : Int32) (h : j_X5_isValue v0 = some o) (hk : post (some (.inl o)) hh) : dp_W 0 mX5_isValue false h0 0 0 post 0 0 (0, [some (.inl v0)], [], hh) := by
  unfold j_X5_isValue at h
  refine dp_blk okX5_isValue 1 (S' := (1, [some (.inl v0)], [.inl v0], hh)) rfl ?_
  refine dp_if0 okX5_isValue rfl (fun (c : v0 < (0 : Int32)) => ?_) (fun (c : ¬ v0 < (0 : Int32)) => ?_)
  · have h := dp_ip c h
    refine dp_blk okX5_isValue 1 (S' := (14, [some (.inl v0)], [.inl (0 : Int32)], hh)) rfl ?_
    cases h
    exact dp_zret okX5_isValue rfl rfl (by decide) hk
  · have h := dp_ic c h
    refine dp_blk okX5_isValue 2 (S' := (6, [some (.inl v0)], [.inl (4 : Int32), .inl v0], hh)) rfl ?_
    refine dp_if okX5_isValue rfl (fun (c : (4 : Int32) ≤ v0) => ?_) (fun (c : ¬ (4 : Int32) ≤ v0) => ?_)
    · have h := dp_ip c h
      refine dp_blk okX5_isValue 1 (S' := (14, [some (.inl v0)], [.inl (0 : Int32)], hh)) rfl ?_
      cases h
      exact dp_zret okX5_isValue rfl rfl (by decide) hk
    · have h := dp_ic c h
      refine dp_blk okX5_isValue 2 (S' := (14, [some (.inl v0)], [.inl (1 : Int32)], hh)) rfl ?_
      cases h
      exact dp_zret okX5_isValue rfl rfl (by decide) hk
theorem c_X5_isValue (hh : dp_H) (v0 : Int32) (o : Int32) (h : j_X5_isValue v0 = some o) : dp_C 0 mX5_isValue false [.inl v0] hh 0 0 (dp_R (some (.inl o)) hh) := dp_C_of okX5_isValue [some (.inl v0)] rfl (Nat.le_of_ble_eq_true rfl) (we_X5_isValue hh v0 o h ⟨rfl, rfl⟩)
def jj_X3_speak_87 (s : dp_Z) (v2 v3 v4 v5 : Int32) : Option ((dp_Z × Int32 × Int32) ⊕ (dp_Z × Int32)) := (some (.inl (s, v4, (v5 + (1 : Int32)))))
set_option maxHeartbeats 1000000 in
set_option maxRecDepth 20000 in
theorem wj_X3_speak_87 {post : Option dp_V → dp_H → Prop} {h0 : dp_H} (s : dp_Z) (v2 v3 v4 v5 : Int32) (o : ((dp_Z × Int32 × Int32) ⊕ (dp_Z × Int32))) (h : jj_X3_speak_87 s v2 v3 v4 v5 = some o) (hk : dp_LK (fun x : (dp_Z × Int32 × Int32) => dp_W 2 mX3_speak false h0 0 0 post 0 0 (54, [some (.inr (some 4)), some (.inr (some 1)), some (.inl v2), some (.inl v3), some (.inl x.2.1), some (.inl x.2.2)], [], (hX x.1))) (fun x : (dp_Z × Int32) => dp_W 2 mX3_speak false h0 0 0 post 0 0 (93, [none, none, none, none, some (.inl x.2), none], [], (hX x.1))) o) : dp_W 2 mX3_speak false h0 0 0 post 0 0 (87, [some (.inr (some 4)), some (.inr (some 1)), some (.inl v2), some (.inl v3), some (.inl v4), some (.inl v5)], [], (hX s)) := by
  unfold jj_X3_speak_87 at h
  refine dp_blk okX3_speak 2 (S' := (54, [some (.inr (some 4)), some (.inr (some 1)), some (.inl v2), some (.inl v3), some (.inl v4), some (.inl (v5 + (1 : Int32)))], [], (hX s))) rfl ?_
  cases h
  exact hk
def jj_X3_hear_63 (s : dp_Z) (v2 v4 : Int32) : Option (Int32 × dp_Z) := (if dp_inb v2 12 = true then (dp_bd (some (dp_sr s 3 (upd (s.2 3) (v2).toNatClampNeg v4))) fun s2 => (if dp_inb v2 12 = true then (dp_bd (some (dp_sr s2 4 (upd (s2.2 4) (v2).toNatClampNeg (s2.1 7)))) fun s3 => (some ((1 : Int32), s3))) else none)) else none)
set_option maxHeartbeats 1000000 in
set_option maxRecDepth 20000 in
theorem wj_X3_hear_63 {post : Option dp_V → dp_H → Prop} {h0 : dp_H} (s : dp_Z) (v2 v4 : Int32) (o : (Int32 × dp_Z)) (h : jj_X3_hear_63 s v2 v4 = some o) (hk : post (some (.inl o.1)) (hX o.2)) : dp_W 1 mX3_hear false h0 0 0 post 0 0 (63, [some (.inr (some 4)), none, some (.inl v2), none, some (.inl v4)], [], (hX s)) := by
  unfold jj_X3_hear_63 at h
  refine dp_blk okX3_hear 4 (S' := (70, [some (.inr (some 4)), none, some (.inl v2), none, some (.inl v4)], [.inl v4, .inl v2, .inr (some 6)], (hX s))) rfl ?_
  obtain ⟨hi, h⟩ := dp_ite h
  obtain ⟨s2, hs, h⟩ := dp_bd_inv h
  have hs := Option.some.inj hs
  refine dp_iase (g := (s.2 3)) okX3_hear rfl rfl (dp_inb_in hi) ((ahX_3 s _).trans (congrArg hX hs)) ?_
  refine dp_blk okX3_hear 5 (S' := (80, [some (.inr (some 4)), none, some (.inl v2), none, some (.inl v4)], [.inl (s2.1 7), .inl v2, .inr (some 7)], (hX s2))) rfl ?_
  obtain ⟨hi, h⟩ := dp_ite h
  obtain ⟨s3, hs, h⟩ := dp_bd_inv h
  have hs := Option.some.inj hs
  refine dp_iase (g := (s2.2 4)) okX3_hear rfl rfl (dp_inb_in hi) ((ahX_4 s2 _).trans (congrArg hX hs)) ?_
  refine dp_blk okX3_hear 1 (S' := (82, [some (.inr (some 4)), none, some (.inl v2), none, some (.inl v4)], [.inl (1 : Int32)], (hX s3))) rfl ?_
  cases h
  exact dp_iret okX3_hear rfl rfl hk
def j_X3_heardOf (s : dp_Z) (v1 v2 : Int32) : Option Int32 := (if dp_inb ((v1 * (4 : Int32)) + v2) 48 = true then (some ((s.2 5) (((v1 * (4 : Int32)) + v2)).toNatClampNeg)) else none)
set_option maxHeartbeats 1000000 in
set_option maxRecDepth 20000 in
theorem we_X3_heardOf {post : Option dp_V → dp_H → Prop} {h0 : dp_H} (s : dp_Z) (v1 v2 : Int32) (o : Int32) (h : j_X3_heardOf s v1 v2 = some o) (hk : post (some (.inl o)) (hX s)) : dp_W 0 mX3_heardOf false h0 0 0 post 0 0 (0, [some (.inr (some 4)), some (.inl v1), some (.inl v2)], [], (hX s)) := by
  unfold j_X3_heardOf at h
  refine dp_blk okX3_heardOf 7 (S' := (9, [some (.inr (some 4)), some (.inl v1), some (.inl v2)], [.inl ((v1 * (4 : Int32)) + v2), .inr (some 8)], (hX s))) rfl ?_
  obtain ⟨hi, h⟩ := dp_ite h
  refine dp_ial (g := (s.2 5)) okX3_heardOf rfl rfl (dp_inb_in hi) ?_
  refine dp_blk okX3_heardOf 0 (S' := (10, [some (.inr (some 4)), some (.inl v1), some (.inl v2)], [.inl ((s.2 5) (((v1 * (4 : Int32)) + v2)).toNatClampNeg)], (hX s))) rfl ?_
  cases h
  exact dp_iret okX3_heardOf rfl rfl hk
theorem c_X3_heardOf (s : dp_Z) (v1 v2 : Int32) (o : Int32) (h : j_X3_heardOf s v1 v2 = some o) : dp_C 0 mX3_heardOf false [.inr (some 4), .inl v1, .inl v2] (hX s) 0 0 (dp_R (some (.inl o)) (hX s)) := dp_C_of okX3_heardOf [some (.inr (some 4)), some (.inl v1), some (.inl v2)] rfl (Nat.le_of_ble_eq_true rfl) (we_X3_heardOf s v1 v2 o h ⟨rfl, rfl⟩)
def j_X3_hear (s : dp_Z) (v2 v3 v4 : Int32) : Option (Int32 × dp_Z) := (if dp_inb ((v2 * (4 : Int32)) + v4) 48 = true then (if dp_inb ((v2 * (4 : Int32)) + v4) 48 = true then (dp_bd (some (dp_sr s 5 (upd (s.2 5) (((v2 * (4 : Int32)) + v4)).toNatClampNeg (((s.2 5) (((v2 * (4 : Int32)) + v4)).toNatClampNeg) + (1 : Int32))))) fun s1 => (if dp_inb v2 12 = true then (if ((s1.2 1) (v2).toNatClampNeg) = (-9 : Int32) then (if dp_inb v2 12 = true then (if ((s1.2 3) (v2).toNatClampNeg) = (-9 : Int32) then (if v3 = (s1.1 3) then (jj_X3_hear_63 s1 v2 v4) else (dp_bd (j_X3_heardOf s1 v2 v4) fun x4 => (if (s1.1 5) ≤ x4 then (jj_X3_hear_63 s1 v2 v4) else (some ((0 : Int32), s1))))) else (some ((0 : Int32), s1))) else none) else (some ((0 : Int32), s1))) else none)) else none) else none)
set_option maxHeartbeats 1000000 in
set_option maxRecDepth 20000 in
theorem we_X3_hear {post : Option dp_V → dp_H → Prop} {h0 : dp_H} (s : dp_Z) (v2 v3 v4 : Int32) (o : (Int32 × dp_Z)) (h : j_X3_hear s v2 v3 v4 = some o) (hk : post (some (.inl o.1)) (hX o.2)) : dp_W 1 mX3_hear false h0 0 0 post 0 0 (0, [some (.inr (some 4)), some (.inr (some 1)), some (.inl v2), some (.inl v3), some (.inl v4)], [], (hX s)) := by
  unfold j_X3_hear at h
  refine dp_blk okX3_hear 8 (S' := (11, [some (.inr (some 4)), some (.inr (some 1)), some (.inl v2), some (.inl v3), some (.inl v4)], [.inl ((v2 * (4 : Int32)) + v4), .inr (some 8), .inl ((v2 * (4 : Int32)) + v4), .inr (some 8)], (hX s))) rfl ?_
  obtain ⟨hi, h⟩ := dp_ite h
  refine dp_ial (g := (s.2 5)) okX3_hear rfl rfl (dp_inb_in hi) ?_
  refine dp_blk okX3_hear 2 (S' := (14, [some (.inr (some 4)), some (.inr (some 1)), some (.inl v2), some (.inl v3), some (.inl v4)], [.inl (((s.2 5) (((v2 * (4 : Int32)) + v4)).toNatClampNeg) + (1 : Int32)), .inl ((v2 * (4 : Int32)) + v4), .inr (some 8)], (hX s))) rfl ?_
  obtain ⟨hi, h⟩ := dp_ite h
  obtain ⟨s1, hs, h⟩ := dp_bd_inv h
  have hs := Option.some.inj hs
  refine dp_iase (g := (s.2 5)) okX3_hear rfl rfl (dp_inb_in hi) ((ahX_5 s _).trans (congrArg hX hs)) ?_
  refine dp_blk okX3_hear 3 (S' := (20, [some (.inr (some 4)), some (.inr (some 1)), some (.inl v2), some (.inl v3), some (.inl v4)], [.inl v2, .inr (some 3)], (hX s1))) rfl ?_
  obtain ⟨hi, h⟩ := dp_ite h
  refine dp_ial (g := (s1.2 1)) okX3_hear rfl rfl (dp_inb_in hi) ?_
  refine dp_blk okX3_hear 1 (S' := (23, [some (.inr (some 4)), some (.inr (some 1)), some (.inl v2), some (.inl v3), some (.inl v4)], [.inl (-9 : Int32), .inl ((s1.2 1) (v2).toNatClampNeg)], (hX s1))) rfl ?_
  refine dp_if okX3_hear rfl (fun (c : ¬ ((s1.2 1) (v2).toNatClampNeg) = (-9 : Int32)) => ?_) (fun (c : ((s1.2 1) (v2).toNatClampNeg) = (-9 : Int32)) => ?_)
  · have h := dp_ic c h
    refine dp_blk okX3_hear 1 (S' := (38, [some (.inr (some 4)), some (.inr (some 1)), some (.inl v2), some (.inl v3), some (.inl v4)], [.inl (0 : Int32)], (hX s1))) rfl ?_
    cases h
    exact dp_iret okX3_hear rfl rfl hk
  · have h := dp_ip c h
    refine dp_blk okX3_hear 3 (S' := (31, [some (.inr (some 4)), some (.inr (some 1)), some (.inl v2), some (.inl v3), some (.inl v4)], [.inl v2, .inr (some 6)], (hX s1))) rfl ?_
    obtain ⟨hi, h⟩ := dp_ite h
    refine dp_ial (g := (s1.2 3)) okX3_hear rfl rfl (dp_inb_in hi) ?_
    refine dp_blk okX3_hear 1 (S' := (34, [some (.inr (some 4)), some (.inr (some 1)), some (.inl v2), some (.inl v3), some (.inl v4)], [.inl (-9 : Int32), .inl ((s1.2 3) (v2).toNatClampNeg)], (hX s1))) rfl ?_
    refine dp_if okX3_hear rfl (fun (c : ((s1.2 3) (v2).toNatClampNeg) = (-9 : Int32)) => ?_) (fun (c : ¬ ((s1.2 3) (v2).toNatClampNeg) = (-9 : Int32)) => ?_)
    · have h := dp_ip c h
      refine dp_blk okX3_hear 3 (S' := (44, [some (.inr (some 4)), some (.inr (some 1)), some (.inl v2), some (.inl v3), some (.inl v4)], [.inl (s1.1 3), .inl v3], (hX s1))) rfl ?_
      refine dp_if okX3_hear rfl (fun (c : v3 = (s1.1 3)) => ?_) (fun (c : ¬ v3 = (s1.1 3)) => ?_)
      · have h := dp_ip c h
        refine dp_blk okX3_hear 0 (S' := (63, [some (.inr (some 4)), some (.inr (some 1)), some (.inl v2), some (.inl v3), some (.inl v4)], [], (hX s1))) rfl ?_
        refine dp_fg [true, false, true, false, true] (L' := [some (.inr (some 4)), none, some (.inl v2), none, some (.inl v4)]) rfl rfl ?_
        exact wj_X3_hear_63 s1 v2 v4 _ h hk
      · have h := dp_ic c h
        refine dp_blk okX3_hear 3 (S' := (51, [some (.inr (some 4)), some (.inr (some 1)), some (.inl v2), some (.inl v3), some (.inl v4)], [.inl v4, .inl v2, .inr (some 4)], (hX s1))) rfl ?_
        obtain ⟨x4, hc, h⟩ := dp_bd_inv h
        refine dp_cV okX3_hear okX3_heardOf (as := [.inl v2, .inl v4]) (r := []) rfl lk_NearLiars_Run_93 npX3_heardOf (c_X3_heardOf s1 v2 v4 x4 hc) rfl rfl rfl rfl (Nat.le_of_ble_eq_true rfl) (Nat.le_of_ble_eq_true rfl) (Nat.le_refl _) (Nat.le_refl _) ?_
        refine dp_blk okX3_hear 2 (S' := (58, [some (.inr (some 4)), some (.inr (some 1)), some (.inl v2), some (.inl v3), some (.inl v4)], [.inl (s1.1 5), .inl x4], (hX s1))) rfl ?_
        refine dp_if okX3_hear rfl (fun (c : (s1.1 5) ≤ x4) => ?_) (fun (c : ¬ (s1.1 5) ≤ x4) => ?_)
        · have h := dp_ip c h
          refine dp_blk okX3_hear 0 (S' := (63, [some (.inr (some 4)), some (.inr (some 1)), some (.inl v2), some (.inl v3), some (.inl v4)], [], (hX s1))) rfl ?_
          refine dp_fg [true, false, true, false, true] (L' := [some (.inr (some 4)), none, some (.inl v2), none, some (.inl v4)]) rfl rfl ?_
          exact wj_X3_hear_63 s1 v2 v4 _ h hk
        · have h := dp_ic c h
          refine dp_blk okX3_hear 1 (S' := (62, [some (.inr (some 4)), some (.inr (some 1)), some (.inl v2), some (.inl v3), some (.inl v4)], [.inl (0 : Int32)], (hX s1))) rfl ?_
          cases h
          exact dp_iret okX3_hear rfl rfl hk
    · have h := dp_ic c h
      refine dp_blk okX3_hear 1 (S' := (38, [some (.inr (some 4)), some (.inr (some 1)), some (.inl v2), some (.inl v3), some (.inl v4)], [.inl (0 : Int32)], (hX s1))) rfl ?_
      cases h
      exact dp_iret okX3_hear rfl rfl hk
theorem c_X3_hear (s : dp_Z) (v2 v3 v4 : Int32) (o : (Int32 × dp_Z)) (h : j_X3_hear s v2 v3 v4 = some o) : dp_C 1 mX3_hear false [.inr (some 4), .inr (some 1), .inl v2, .inl v3, .inl v4] (hX s) 0 0 (dp_R (some (.inl o.1)) (hX o.2)) := dp_C_of okX3_hear [some (.inr (some 4)), some (.inr (some 1)), some (.inl v2), some (.inl v3), some (.inl v4)] rfl (Nat.le_of_ble_eq_true rfl) (we_X3_hear s v2 v3 v4 o h ⟨rfl, rfl⟩)
def jb_X3_speak_54 (v2 v3 : Int32) (x : (dp_Z × Int32 × Int32)) : Option ((dp_Z × Int32 × Int32) ⊕ (dp_Z × Int32)) := (if (x.1.1 0) ≤ x.2.2 then (some (.inr (x.1, x.2.1))) else (dp_bd (j_X2_areLinked x.1 v2 x.2.2) fun x3 => (if x3 = (0 : Int32) then (jj_X3_speak_87 x.1 v2 v3 x.2.1 x.2.2) else (dp_bd (j_X3_hear x.1 x.2.2 v2 v3) fun x4 => (jj_X3_speak_87 x4.2 v2 v3 (x.2.1 + x4.1) x.2.2)))))
set_option maxHeartbeats 1000000 in
set_option maxRecDepth 20000 in
theorem wl_X3_speak_54 {post : Option dp_V → dp_H → Prop} {h0 : dp_H} (v2 v3 : Int32) (x : (dp_Z × Int32 × Int32)) (o : ((dp_Z × Int32 × Int32) ⊕ (dp_Z × Int32))) (h : jb_X3_speak_54 v2 v3 x = some o) (hk : dp_LK (fun x : (dp_Z × Int32 × Int32) => dp_W 2 mX3_speak false h0 0 0 post 0 0 (54, [some (.inr (some 4)), some (.inr (some 1)), some (.inl v2), some (.inl v3), some (.inl x.2.1), some (.inl x.2.2)], [], (hX x.1))) (fun x : (dp_Z × Int32) => dp_W 2 mX3_speak false h0 0 0 post 0 0 (93, [none, none, none, none, some (.inl x.2), none], [], (hX x.1))) o) : dp_W 2 mX3_speak false h0 0 0 post 0 0 (54, [some (.inr (some 4)), some (.inr (some 1)), some (.inl v2), some (.inl v3), some (.inl x.2.1), some (.inl x.2.2)], [], (hX x.1)) := by
  unfold jb_X3_speak_54 at h
  refine dp_blk okX3_speak 3 (S' := (60, [some (.inr (some 4)), some (.inr (some 1)), some (.inl v2), some (.inl v3), some (.inl x.2.1), some (.inl x.2.2)], [.inl (x.1.1 0), .inl x.2.2], (hX x.1))) rfl ?_
  refine dp_if okX3_speak rfl (fun (c : (x.1.1 0) ≤ x.2.2) => ?_) (fun (c : ¬ (x.1.1 0) ≤ x.2.2) => ?_)
  · have h := dp_ip c h
    refine dp_blk okX3_speak 0 (S' := (93, [some (.inr (some 4)), some (.inr (some 1)), some (.inl v2), some (.inl v3), some (.inl x.2.1), some (.inl x.2.2)], [], (hX x.1))) rfl ?_
    cases h
    refine dp_fg [false, false, false, false, true, false] (L' := [none, none, none, none, some (.inl x.2.1), none]) rfl rfl ?_
    exact hk
  · have h := dp_ic c h
    refine dp_blk okX3_speak 3 (S' := (67, [some (.inr (some 4)), some (.inr (some 1)), some (.inl v2), some (.inl v3), some (.inl x.2.1), some (.inl x.2.2)], [.inl x.2.2, .inl v2, .inr (some 1)], (hX x.1))) rfl ?_
    obtain ⟨x3, hc, h⟩ := dp_bd_inv h
    refine dp_cV okX3_speak okX2_areLinked (as := [.inl v2, .inl x.2.2]) (r := []) rfl lk_NearLiars_Run_69 npX2_areLinked (c_X2_areLinked x.1 v2 x.2.2 x3 hc) rfl rfl rfl rfl (Nat.le_of_ble_eq_true rfl) (Nat.le_of_ble_eq_true rfl) (Nat.le_refl _) (Nat.le_refl _) ?_
    refine dp_blk okX3_speak 0 (S' := (70, [some (.inr (some 4)), some (.inr (some 1)), some (.inl v2), some (.inl v3), some (.inl x.2.1), some (.inl x.2.2)], [.inl x3], (hX x.1))) rfl ?_
    refine dp_if0 okX3_speak rfl (fun (c : x3 = (0 : Int32)) => ?_) (fun (c : ¬ x3 = (0 : Int32)) => ?_)
    · have h := dp_ip c h
      refine dp_blk okX3_speak 0 (S' := (87, [some (.inr (some 4)), some (.inr (some 1)), some (.inl v2), some (.inl v3), some (.inl x.2.1), some (.inl x.2.2)], [], (hX x.1))) rfl ?_
      exact wj_X3_speak_87 x.1 v2 v3 x.2.1 x.2.2 _ h hk
    · have h := dp_ic c h
      refine dp_blk okX3_speak 6 (S' := (81, [some (.inr (some 4)), some (.inr (some 1)), some (.inl v2), some (.inl v3), some (.inl x.2.1), some (.inl x.2.2)], [.inl v3, .inl v2, .inl x.2.2, .inr (some 1), .inr (some 4), .inl x.2.1], (hX x.1))) rfl ?_
      obtain ⟨x4, hc, h⟩ := dp_bd_inv h
      refine dp_cV okX3_speak okX3_hear (as := [.inr (some 1), .inl x.2.2, .inl v2, .inl v3]) (r := [.inl x.2.1]) rfl lk_NearLiars_Run_89 npX3_hear (c_X3_hear x.1 x.2.2 v2 v3 x4 hc) rfl rfl rfl rfl (Nat.le_of_ble_eq_true rfl) (Nat.le_of_ble_eq_true rfl) (Nat.le_refl _) (Nat.le_refl _) ?_
      refine dp_blk okX3_speak 2 (S' := (87, [some (.inr (some 4)), some (.inr (some 1)), some (.inl v2), some (.inl v3), some (.inl (x.2.1 + x4.1)), some (.inl x.2.2)], [], (hX x4.2))) rfl ?_
      exact wj_X3_speak_87 x4.2 v2 v3 (x.2.1 + x4.1) x.2.2 _ h hk
def jj_X3_speak_26 (s : dp_Z) (v2 t0 : Int32) : Option (Int32 × dp_Z) := (dp_bd (j_X5_isValue t0) fun x1 => (if x1 = (0 : Int32) then (some ((0 : Int32), s)) else (dp_bd (some (dp_sf s 8 ((s.1 8) ||| ((1 : Int32) <<< (v2 &&& 31))))) fun s2 => (dp_bd (dp_loop (jb_X3_speak_54 v2 t0) dp_F (s2, (0 : Int32), (0 : Int32))) fun x5 => (some (x5.2, x5.1))))))
set_option maxHeartbeats 1000000 in
set_option maxRecDepth 20000 in
theorem wj_X3_speak_26 {post : Option dp_V → dp_H → Prop} {h0 : dp_H} (s : dp_Z) (v2 t0 : Int32) (o : (Int32 × dp_Z)) (h : jj_X3_speak_26 s v2 t0 = some o) (hk : post (some (.inl o.1)) (hX o.2)) : dp_W 2 mX3_speak false h0 0 0 post 0 0 (26, [some (.inr (some 4)), some (.inr (some 1)), some (.inl v2), none, none, none], [.inl t0], (hX s)) := by
  unfold jj_X3_speak_26 at h
  refine dp_blk okX3_speak 2 (S' := (28, [some (.inr (some 4)), some (.inr (some 1)), some (.inl v2), some (.inl t0), none, none], [.inl t0], (hX s))) rfl ?_
  obtain ⟨x1, hc, h⟩ := dp_bd_inv h
  refine dp_cSN okX3_speak okX5_isValue (as := [.inl t0]) (r := []) rfl lk_NearLiars_Run_85 npX5_isValue (c_X5_isValue (hX s) t0 x1 hc) rfl (Nat.le_of_ble_eq_true rfl) (Nat.le_of_ble_eq_true rfl) (Nat.le_refl _) (Nat.le_refl _) ?_
  refine dp_blk okX3_speak 0 (S' := (31, [some (.inr (some 4)), some (.inr (some 1)), some (.inl v2), some (.inl t0), none, none], [.inl x1], (hX s))) rfl ?_
  refine dp_if0 okX3_speak rfl (fun (c : ¬ x1 = (0 : Int32)) => ?_) (fun (c : x1 = (0 : Int32)) => ?_)
  · have h := dp_ic c h
    refine dp_blk okX3_speak 7 (S' := (45, [some (.inr (some 4)), some (.inr (some 1)), some (.inl v2), some (.inl t0), none, none], [.inl ((s.1 8) ||| ((1 : Int32) <<< (v2 &&& 31))), .inr (some 4)], (hX s))) rfl ?_
    obtain ⟨s2, hs, h⟩ := dp_bd_inv h
    have hs := Option.some.inj hs
    refine dp_pfe okX3_speak rfl (by decide) (qhX_4 s) (Nat.le_of_ble_eq_true rfl) ((phX_8 s ((s.1 8) ||| ((1 : Int32) <<< (v2 &&& 31)))).trans (congrArg hX hs)) ?_
    refine dp_blk okX3_speak 4 (S' := (54, [some (.inr (some 4)), some (.inr (some 1)), some (.inl v2), some (.inl t0), some (.inl (0 : Int32)), some (.inl (0 : Int32))], [], (hX s2))) rfl ?_
    obtain ⟨x5, hl, h⟩ := dp_bd_inv h
    refine dp_loopW (wl_X3_speak_54 v2 t0) dp_F (s2, (0 : Int32), (0 : Int32)) x5 hl ?_
    show dp_W 2 mX3_speak false h0 0 0 post 0 0 (93, [none, none, none, none, some (.inl x5.2), none], [], (hX x5.1))
    refine dp_blk okX3_speak 1 (S' := (95, [none, none, none, none, some (.inl x5.2), none], [.inl x5.2], (hX x5.1))) rfl ?_
    cases h
    exact dp_iret okX3_speak rfl rfl hk
  · have h := dp_ip c h
    refine dp_blk okX3_speak 1 (S' := (35, [some (.inr (some 4)), some (.inr (some 1)), some (.inl v2), some (.inl t0), none, none], [.inl (0 : Int32)], (hX s))) rfl ?_
    cases h
    exact dp_iret okX3_speak rfl rfl hk
def j_X3_speak (s : dp_Z) (v2 : Int32) : Option (Int32 × dp_Z) := (if dp_inb v2 12 = true then (if ((s.2 1) (v2).toNatClampNeg) = (-9 : Int32) then (if dp_inb v2 12 = true then (jj_X3_speak_26 s v2 ((s.2 3) (v2).toNatClampNeg)) else none) else (if dp_inb v2 12 = true then (jj_X3_speak_26 s v2 ((s.2 1) (v2).toNatClampNeg)) else none)) else none)
set_option maxHeartbeats 1000000 in
set_option maxRecDepth 20000 in
theorem we_X3_speak {post : Option dp_V → dp_H → Prop} {h0 : dp_H} (s : dp_Z) (v2 : Int32) (o : (Int32 × dp_Z)) (h : j_X3_speak s v2 = some o) (hk : post (some (.inl o.1)) (hX o.2)) : dp_W 2 mX3_speak false h0 0 0 post 0 0 (0, [some (.inr (some 4)), some (.inr (some 1)), some (.inl v2), none, none, none], [], (hX s)) := by
  unfold j_X3_speak at h
  refine dp_blk okX3_speak 3 (S' := (5, [some (.inr (some 4)), some (.inr (some 1)), some (.inl v2), none, none, none], [.inl v2, .inr (some 3)], (hX s))) rfl ?_
  obtain ⟨hi, h⟩ := dp_ite h
  refine dp_ial (g := (s.2 1)) okX3_speak rfl rfl (dp_inb_in hi) ?_
  refine dp_blk okX3_speak 1 (S' := (8, [some (.inr (some 4)), some (.inr (some 1)), some (.inl v2), none, none, none], [.inl (-9 : Int32), .inl ((s.2 1) (v2).toNatClampNeg)], (hX s))) rfl ?_
  refine dp_if okX3_speak rfl (fun (c : ¬ ((s.2 1) (v2).toNatClampNeg) = (-9 : Int32)) => ?_) (fun (c : ((s.2 1) (v2).toNatClampNeg) = (-9 : Int32)) => ?_)
  · have h := dp_ic c h
    refine dp_blk okX3_speak 3 (S' := (25, [some (.inr (some 4)), some (.inr (some 1)), some (.inl v2), none, none, none], [.inl v2, .inr (some 3)], (hX s))) rfl ?_
    obtain ⟨hi, h⟩ := dp_ite h
    refine dp_ial (g := (s.2 1)) okX3_speak rfl rfl (dp_inb_in hi) ?_
    refine dp_blk okX3_speak 0 (S' := (26, [some (.inr (some 4)), some (.inr (some 1)), some (.inl v2), none, none, none], [.inl ((s.2 1) (v2).toNatClampNeg)], (hX s))) rfl ?_
    exact wj_X3_speak_26 s v2 ((s.2 1) (v2).toNatClampNeg) _ h hk
  · have h := dp_ip c h
    refine dp_blk okX3_speak 3 (S' := (16, [some (.inr (some 4)), some (.inr (some 1)), some (.inl v2), none, none, none], [.inl v2, .inr (some 6)], (hX s))) rfl ?_
    obtain ⟨hi, h⟩ := dp_ite h
    refine dp_ial (g := (s.2 3)) okX3_speak rfl rfl (dp_inb_in hi) ?_
    refine dp_blk okX3_speak 1 (S' := (26, [some (.inr (some 4)), some (.inr (some 1)), some (.inl v2), none, none, none], [.inl ((s.2 3) (v2).toNatClampNeg)], (hX s))) rfl ?_
    exact wj_X3_speak_26 s v2 ((s.2 3) (v2).toNatClampNeg) _ h hk
theorem c_X3_speak (s : dp_Z) (v2 : Int32) (o : (Int32 × dp_Z)) (h : j_X3_speak s v2 = some o) : dp_C 2 mX3_speak false [.inr (some 4), .inr (some 1), .inl v2] (hX s) 0 0 (dp_R (some (.inl o.1)) (hX o.2)) := dp_C_of okX3_speak [some (.inr (some 4)), some (.inr (some 1)), some (.inl v2), none, none, none] rfl (Nat.le_of_ble_eq_true rfl) (we_X3_speak s v2 o h ⟨rfl, rfl⟩)
def jb_X3_pass_36 (v2 : Int32) (x : (dp_Z × Int32 × Int32)) : Option ((dp_Z × Int32 × Int32) ⊕ (dp_Z × Int32)) := (if (x.1.1 0) ≤ x.2.2 then (some (.inr (x.1, x.2.1))) else (if dp_inb x.2.2 12 = true then (if ((x.1.2 2) (x.2.2).toNatClampNeg) = v2 then (dp_bd (j_X5_isIn x.2.2 (x.1.1 8)) fun x2 => (if x2 = (0 : Int32) then (dp_bd (j_X3_speak x.1 x.2.2) fun x3 => (jj_X3_pass_78 x3.2 v2 (x.2.1 + x3.1) x.2.2)) else (jj_X3_pass_78 x.1 v2 x.2.1 x.2.2))) else (jj_X3_pass_78 x.1 v2 x.2.1 x.2.2)) else none))
set_option maxHeartbeats 1000000 in
set_option maxRecDepth 20000 in
theorem wl_X3_pass_36 {post : Option dp_V → dp_H → Prop} {h0 : dp_H} (v2 : Int32) (x : (dp_Z × Int32 × Int32)) (o : ((dp_Z × Int32 × Int32) ⊕ (dp_Z × Int32))) (h : jb_X3_pass_36 v2 x = some o) (hk : dp_LK (fun x : (dp_Z × Int32 × Int32) => dp_W 3 mX3_pass false h0 0 0 post 0 0 (36, [some (.inr (some 4)), some (.inr (some 1)), some (.inl v2), some (.inl x.2.1), some (.inl x.2.2)], [], (hX x.1))) (fun x : (dp_Z × Int32) => dp_W 3 mX3_pass false h0 0 0 post 0 0 (84, [none, none, none, some (.inl x.2), none], [], (hX x.1))) o) : dp_W 3 mX3_pass false h0 0 0 post 0 0 (36, [some (.inr (some 4)), some (.inr (some 1)), some (.inl v2), some (.inl x.2.1), some (.inl x.2.2)], [], (hX x.1)) := by
  unfold jb_X3_pass_36 at h
  refine dp_blk okX3_pass 3 (S' := (42, [some (.inr (some 4)), some (.inr (some 1)), some (.inl v2), some (.inl x.2.1), some (.inl x.2.2)], [.inl (x.1.1 0), .inl x.2.2], (hX x.1))) rfl ?_
  refine dp_if okX3_pass rfl (fun (c : (x.1.1 0) ≤ x.2.2) => ?_) (fun (c : ¬ (x.1.1 0) ≤ x.2.2) => ?_)
  · have h := dp_ip c h
    refine dp_blk okX3_pass 0 (S' := (84, [some (.inr (some 4)), some (.inr (some 1)), some (.inl v2), some (.inl x.2.1), some (.inl x.2.2)], [], (hX x.1))) rfl ?_
    cases h
    refine dp_fg [false, false, false, true, false] (L' := [none, none, none, some (.inl x.2.1), none]) rfl rfl ?_
    exact hk
  · have h := dp_ic c h
    refine dp_blk okX3_pass 3 (S' := (51, [some (.inr (some 4)), some (.inr (some 1)), some (.inl v2), some (.inl x.2.1), some (.inl x.2.2)], [.inl x.2.2, .inr (some 5)], (hX x.1))) rfl ?_
    obtain ⟨hi, h⟩ := dp_ite h
    refine dp_ial (g := (x.1.2 2)) okX3_pass rfl rfl (dp_inb_in hi) ?_
    refine dp_blk okX3_pass 1 (S' := (53, [some (.inr (some 4)), some (.inr (some 1)), some (.inl v2), some (.inl x.2.1), some (.inl x.2.2)], [.inl v2, .inl ((x.1.2 2) (x.2.2).toNatClampNeg)], (hX x.1))) rfl ?_
    refine dp_if okX3_pass rfl (fun (c : ¬ ((x.1.2 2) (x.2.2).toNatClampNeg) = v2) => ?_) (fun (c : ((x.1.2 2) (x.2.2).toNatClampNeg) = v2) => ?_)
    · have h := dp_ic c h
      refine dp_blk okX3_pass 0 (S' := (78, [some (.inr (some 4)), some (.inr (some 1)), some (.inl v2), some (.inl x.2.1), some (.inl x.2.2)], [], (hX x.1))) rfl ?_
      exact wj_X3_pass_78 x.1 v2 x.2.1 x.2.2 _ h hk
    · have h := dp_ip c h
      refine dp_blk okX3_pass 3 (S' := (62, [some (.inr (some 4)), some (.inr (some 1)), some (.inl v2), some (.inl x.2.1), some (.inl x.2.2)], [.inl (x.1.1 8), .inl x.2.2], (hX x.1))) rfl ?_
      obtain ⟨x2, hc, h⟩ := dp_bd_inv h
      refine dp_cSN okX3_pass okX5_isIn (as := [.inl x.2.2, .inl (x.1.1 8)]) (r := []) rfl lk_NearLiars_Run_76 npX5_isIn (c_X5_isIn (hX x.1) x.2.2 (x.1.1 8) x2 hc) rfl (Nat.le_of_ble_eq_true rfl) (Nat.le_of_ble_eq_true rfl) (Nat.le_refl _) (Nat.le_refl _) ?_
      refine dp_blk okX3_pass 0 (S' := (65, [some (.inr (some 4)), some (.inr (some 1)), some (.inl v2), some (.inl x.2.1), some (.inl x.2.2)], [.inl x2], (hX x.1))) rfl ?_
      refine dp_if0 okX3_pass rfl (fun (c : ¬ x2 = (0 : Int32)) => ?_) (fun (c : x2 = (0 : Int32)) => ?_)
      · have h := dp_ic c h
        refine dp_blk okX3_pass 0 (S' := (78, [some (.inr (some 4)), some (.inr (some 1)), some (.inl v2), some (.inl x.2.1), some (.inl x.2.2)], [], (hX x.1))) rfl ?_
        exact wj_X3_pass_78 x.1 v2 x.2.1 x.2.2 _ h hk
      · have h := dp_ip c h
        refine dp_blk okX3_pass 4 (S' := (73, [some (.inr (some 4)), some (.inr (some 1)), some (.inl v2), some (.inl x.2.1), some (.inl x.2.2)], [.inl x.2.2, .inr (some 1), .inr (some 4), .inl x.2.1], (hX x.1))) rfl ?_
        obtain ⟨x3, hc, h⟩ := dp_bd_inv h
        refine dp_cV okX3_pass okX3_speak (as := [.inr (some 1), .inl x.2.2]) (r := [.inl x.2.1]) rfl lk_NearLiars_Run_79 npX3_speak (c_X3_speak x.1 x.2.2 x3 hc) rfl rfl rfl rfl (Nat.le_of_ble_eq_true rfl) (Nat.le_of_ble_eq_true rfl) (Nat.le_refl _) (Nat.le_refl _) ?_
        refine dp_blk okX3_pass 2 (S' := (78, [some (.inr (some 4)), some (.inr (some 1)), some (.inl v2), some (.inl (x.2.1 + x3.1)), some (.inl x.2.2)], [], (hX x3.2))) rfl ?_
        exact wj_X3_pass_78 x3.2 v2 (x.2.1 + x3.1) x.2.2 _ h hk
def jj_X3_pass_20 (s : dp_Z) (t0 : Int32) : Option (Int32 × dp_Z) := (dp_bd (some (dp_sf s 7 ((s.1 7) + (1 : Int32)))) fun s1 => (dp_bd (dp_loop (jb_X3_pass_36 t0) dp_F (s1, (0 : Int32), (0 : Int32))) fun x4 => (some (x4.2, x4.1))))
set_option maxHeartbeats 1000000 in
set_option maxRecDepth 20000 in
theorem wj_X3_pass_20 {post : Option dp_V → dp_H → Prop} {h0 : dp_H} (s : dp_Z) (t0 : Int32) (o : (Int32 × dp_Z)) (h : jj_X3_pass_20 s t0 = some o) (hk : post (some (.inl o.1)) (hX o.2)) : dp_W 3 mX3_pass false h0 0 0 post 0 0 (20, [some (.inr (some 4)), some (.inr (some 1)), none, none, none], [.inl t0], (hX s)) := by
  unfold jj_X3_pass_20 at h
  refine dp_blk okX3_pass 6 (S' := (28, [some (.inr (some 4)), some (.inr (some 1)), some (.inl t0), none, none], [.inl ((s.1 7) + (1 : Int32)), .inr (some 4)], (hX s))) rfl ?_
  obtain ⟨s1, hs, h⟩ := dp_bd_inv h
  have hs := Option.some.inj hs
  refine dp_pfe okX3_pass rfl (by decide) (qhX_4 s) (Nat.le_of_ble_eq_true rfl) ((phX_7 s ((s.1 7) + (1 : Int32))).trans (congrArg hX hs)) ?_
  refine dp_blk okX3_pass 4 (S' := (36, [some (.inr (some 4)), some (.inr (some 1)), some (.inl t0), some (.inl (0 : Int32)), some (.inl (0 : Int32))], [], (hX s1))) rfl ?_
  obtain ⟨x4, hl, h⟩ := dp_bd_inv h
  refine dp_loopW (wl_X3_pass_36 t0) dp_F (s1, (0 : Int32), (0 : Int32)) x4 hl ?_
  show dp_W 3 mX3_pass false h0 0 0 post 0 0 (84, [none, none, none, some (.inl x4.2), none], [], (hX x4.1))
  refine dp_blk okX3_pass 1 (S' := (85, [none, none, none, some (.inl x4.2), none], [.inl x4.2], (hX x4.1))) rfl ?_
  cases h
  exact dp_iret okX3_pass rfl rfl hk
def j_X3_pass (s : dp_Z) : Option (Int32 × dp_Z) := (if (s.1 6) ≤ (0 : Int32) then (jj_X3_pass_20 s (0 : Int32)) else (if (s.1 6) = 0 then none else (jj_X3_pass_20 s ((s.1 7) - (s.1 7) / (s.1 6) * (s.1 6)))))
set_option maxHeartbeats 1000000 in
set_option maxRecDepth 20000 in
theorem we_X3_pass {post : Option dp_V → dp_H → Prop} {h0 : dp_H} (s : dp_Z) (o : (Int32 × dp_Z)) (h : j_X3_pass s = some o) (hk : post (some (.inl o.1)) (hX o.2)) : dp_W 3 mX3_pass false h0 0 0 post 0 0 (0, [some (.inr (some 4)), some (.inr (some 1)), none, none, none], [], (hX s)) := by
  unfold j_X3_pass at h
  refine dp_blk okX3_pass 2 (S' := (4, [some (.inr (some 4)), some (.inr (some 1)), none, none, none], [.inl (s.1 6)], (hX s))) rfl ?_
  refine dp_if0 okX3_pass rfl (fun (c : (s.1 6) ≤ (0 : Int32)) => ?_) (fun (c : ¬ (s.1 6) ≤ (0 : Int32)) => ?_)
  · have h := dp_ip c h
    refine dp_blk okX3_pass 1 (S' := (20, [some (.inr (some 4)), some (.inr (some 1)), none, none, none], [.inl (0 : Int32)], (hX s))) rfl ?_
    exact wj_X3_pass_20 s (0 : Int32) _ h hk
  · have h := dp_ic c h
    refine dp_blk okX3_pass 4 (S' := (15, [some (.inr (some 4)), some (.inr (some 1)), none, none, none], [.inl (s.1 6), .inl (s.1 7)], (hX s))) rfl ?_
    obtain ⟨hi, h⟩ := dp_ite0 h
    refine dp_irem okX3_pass rfl hi ?_
    refine dp_blk okX3_pass 1 (S' := (20, [some (.inr (some 4)), some (.inr (some 1)), none, none, none], [.inl ((s.1 7) - (s.1 7) / (s.1 6) * (s.1 6))], (hX s))) rfl ?_
    exact wj_X3_pass_20 s ((s.1 7) - (s.1 7) / (s.1 6) * (s.1 6)) _ h hk
theorem c_X3_pass (s : dp_Z) (o : (Int32 × dp_Z)) (h : j_X3_pass s = some o) : dp_C 3 mX3_pass false [.inr (some 4), .inr (some 1)] (hX s) 0 0 (dp_R (some (.inl o.1)) (hX o.2)) := dp_C_of okX3_pass [some (.inr (some 4)), some (.inr (some 1)), none, none, none] rfl (Nat.le_of_ble_eq_true rfl) (we_X3_pass s o h ⟨rfl, rfl⟩)
def jb_X3_heardInAll_4 (s : dp_Z) (v1 : Int32) (x : (Int32 × Int32)) : Option ((Int32 × Int32) ⊕ Int32) := (if (4 : Int32) ≤ x.2 then (some (.inr x.1)) else (dp_bd (j_X3_heardOf s v1 x.2) fun x1 => (some (.inl ((x.1 + x1), (x.2 + (1 : Int32)))))))
set_option maxHeartbeats 1000000 in
set_option maxRecDepth 20000 in
theorem wl_X3_heardInAll_4 {post : Option dp_V → dp_H → Prop} {h0 : dp_H} (s : dp_Z) (v1 : Int32) (x : (Int32 × Int32)) (o : ((Int32 × Int32) ⊕ Int32)) (h : jb_X3_heardInAll_4 s v1 x = some o) (hk : dp_LK (fun x : (Int32 × Int32) => dp_W 1 mX3_heardInAll false h0 0 0 post 0 0 (4, [some (.inr (some 4)), some (.inl v1), some (.inl x.1), some (.inl x.2)], [], (hX s))) (fun x : Int32 => dp_W 1 mX3_heardInAll false h0 0 0 post 0 0 (24, [none, none, some (.inl x), none], [], (hX s))) o) : dp_W 1 mX3_heardInAll false h0 0 0 post 0 0 (4, [some (.inr (some 4)), some (.inl v1), some (.inl x.1), some (.inl x.2)], [], (hX s)) := by
  unfold jb_X3_heardInAll_4 at h
  refine dp_blk okX3_heardInAll 2 (S' := (6, [some (.inr (some 4)), some (.inl v1), some (.inl x.1), some (.inl x.2)], [.inl (4 : Int32), .inl x.2], (hX s))) rfl ?_
  refine dp_if okX3_heardInAll rfl (fun (c : (4 : Int32) ≤ x.2) => ?_) (fun (c : ¬ (4 : Int32) ≤ x.2) => ?_)
  · have h := dp_ip c h
    refine dp_blk okX3_heardInAll 0 (S' := (24, [some (.inr (some 4)), some (.inl v1), some (.inl x.1), some (.inl x.2)], [], (hX s))) rfl ?_
    cases h
    refine dp_fg [false, false, true, false] (L' := [none, none, some (.inl x.1), none]) rfl rfl ?_
    exact hk
  · have h := dp_ic c h
    refine dp_blk okX3_heardInAll 4 (S' := (13, [some (.inr (some 4)), some (.inl v1), some (.inl x.1), some (.inl x.2)], [.inl x.2, .inl v1, .inr (some 4), .inl x.1], (hX s))) rfl ?_
    obtain ⟨x1, hc, h⟩ := dp_bd_inv h
    refine dp_cV okX3_heardInAll okX3_heardOf (as := [.inl v1, .inl x.2]) (r := [.inl x.1]) rfl lk_NearLiars_Run_93 npX3_heardOf (c_X3_heardOf s v1 x.2 x1 hc) rfl rfl rfl rfl (Nat.le_of_ble_eq_true rfl) (Nat.le_of_ble_eq_true rfl) (Nat.le_refl _) (Nat.le_refl _) ?_
    refine dp_blk okX3_heardInAll 4 (S' := (4, [some (.inr (some 4)), some (.inl v1), some (.inl (x.1 + x1)), some (.inl (x.2 + (1 : Int32)))], [], (hX s))) rfl ?_
    cases h
    exact hk
def j_X3_heardInAll (s : dp_Z) (v1 : Int32) : Option Int32 := (dp_bd (dp_loop (jb_X3_heardInAll_4 s v1) dp_F ((0 : Int32), (0 : Int32))) fun x2 => (some x2))
set_option maxHeartbeats 1000000 in
set_option maxRecDepth 20000 in
theorem we_X3_heardInAll {post : Option dp_V → dp_H → Prop} {h0 : dp_H} (s : dp_Z) (v1 : Int32) (o : Int32) (h : j_X3_heardInAll s v1 = some o) (hk : post (some (.inl o)) (hX s)) : dp_W 1 mX3_heardInAll false h0 0 0 post 0 0 (0, [some (.inr (some 4)), some (.inl v1), none, none], [], (hX s)) := by
  unfold j_X3_heardInAll at h
  refine dp_blk okX3_heardInAll 4 (S' := (4, [some (.inr (some 4)), some (.inl v1), some (.inl (0 : Int32)), some (.inl (0 : Int32))], [], (hX s))) rfl ?_
  obtain ⟨x2, hl, h⟩ := dp_bd_inv h
  refine dp_loopW (wl_X3_heardInAll_4 s v1) dp_F ((0 : Int32), (0 : Int32)) x2 hl ?_
  show dp_W 1 mX3_heardInAll false h0 0 0 post 0 0 (24, [none, none, some (.inl x2), none], [], (hX s))
  refine dp_blk okX3_heardInAll 1 (S' := (25, [none, none, some (.inl x2), none], [.inl x2], (hX s))) rfl ?_
  cases h
  exact dp_iret okX3_heardInAll rfl rfl hk
theorem c_X3_heardInAll (s : dp_Z) (v1 : Int32) (o : Int32) (h : j_X3_heardInAll s v1 = some o) : dp_C 1 mX3_heardInAll false [.inr (some 4), .inl v1] (hX s) 0 0 (dp_R (some (.inl o)) (hX s)) := dp_C_of okX3_heardInAll [some (.inr (some 4)), some (.inl v1), none, none] rfl (Nat.le_of_ble_eq_true rfl) (we_X3_heardInAll s v1 o h ⟨rfl, rfl⟩)
def jj_X3_right_40 (s : dp_Z) (v2 v3 v4 : Int32) : Option ((Int32 × Int32) ⊕ Int32) := (some (.inl (v3, (v4 + (1 : Int32)))))
set_option maxHeartbeats 1000000 in
set_option maxRecDepth 20000 in
theorem wj_X3_right_40 {post : Option dp_V → dp_H → Prop} {h0 : dp_H} (s : dp_Z) (v2 v3 v4 : Int32) (o : ((Int32 × Int32) ⊕ Int32)) (h : jj_X3_right_40 s v2 v3 v4 = some o) (hk : dp_LK (fun x : (Int32 × Int32) => dp_W 1 mX3_right false h0 0 0 post 0 0 (5, [some (.inr (some 4)), some (.inr (some 1)), some (.inl v2), some (.inl x.1), some (.inl x.2)], [], (hX s))) (fun x : Int32 => dp_W 1 mX3_right false h0 0 0 post 0 0 (46, [none, none, none, some (.inl x), none], [], (hX s))) o) : dp_W 1 mX3_right false h0 0 0 post 0 0 (40, [some (.inr (some 4)), some (.inr (some 1)), some (.inl v2), some (.inl v3), some (.inl v4)], [], (hX s)) := by
  unfold jj_X3_right_40 at h
  refine dp_blk okX3_right 2 (S' := (5, [some (.inr (some 4)), some (.inr (some 1)), some (.inl v2), some (.inl v3), some (.inl (v4 + (1 : Int32)))], [], (hX s))) rfl ?_
  cases h
  exact hk
def jb_X3_right_5 (s : dp_Z) (v2 : Int32) (x : (Int32 × Int32)) : Option ((Int32 × Int32) ⊕ Int32) := (if (s.1 0) ≤ x.2 then (some (.inr x.1)) else (dp_bd (j_X5_isIn x.2 v2) fun x1 => (if x1 = (0 : Int32) then (jj_X3_right_40 s v2 x.1 x.2) else (if dp_inb x.2 12 = true then (if ((s.2 3) (x.2).toNatClampNeg) = (s.1 4) then (jj_X3_right_40 s v2 (x.1 + (1 : Int32)) x.2) else (jj_X3_right_40 s v2 x.1 x.2)) else none))))
set_option maxHeartbeats 1000000 in
set_option maxRecDepth 20000 in
theorem wl_X3_right_5 {post : Option dp_V → dp_H → Prop} {h0 : dp_H} (s : dp_Z) (v2 : Int32) (x : (Int32 × Int32)) (o : ((Int32 × Int32) ⊕ Int32)) (h : jb_X3_right_5 s v2 x = some o) (hk : dp_LK (fun x : (Int32 × Int32) => dp_W 1 mX3_right false h0 0 0 post 0 0 (5, [some (.inr (some 4)), some (.inr (some 1)), some (.inl v2), some (.inl x.1), some (.inl x.2)], [], (hX s))) (fun x : Int32 => dp_W 1 mX3_right false h0 0 0 post 0 0 (46, [none, none, none, some (.inl x), none], [], (hX s))) o) : dp_W 1 mX3_right false h0 0 0 post 0 0 (5, [some (.inr (some 4)), some (.inr (some 1)), some (.inl v2), some (.inl x.1), some (.inl x.2)], [], (hX s)) := by
  unfold jb_X3_right_5 at h
  refine dp_blk okX3_right 3 (S' := (11, [some (.inr (some 4)), some (.inr (some 1)), some (.inl v2), some (.inl x.1), some (.inl x.2)], [.inl (s.1 0), .inl x.2], (hX s))) rfl ?_
  refine dp_if okX3_right rfl (fun (c : (s.1 0) ≤ x.2) => ?_) (fun (c : ¬ (s.1 0) ≤ x.2) => ?_)
  · have h := dp_ip c h
    refine dp_blk okX3_right 0 (S' := (46, [some (.inr (some 4)), some (.inr (some 1)), some (.inl v2), some (.inl x.1), some (.inl x.2)], [], (hX s))) rfl ?_
    cases h
    refine dp_fg [false, false, false, true, false] (L' := [none, none, none, some (.inl x.1), none]) rfl rfl ?_
    exact hk
  · have h := dp_ic c h
    refine dp_blk okX3_right 2 (S' := (17, [some (.inr (some 4)), some (.inr (some 1)), some (.inl v2), some (.inl x.1), some (.inl x.2)], [.inl v2, .inl x.2], (hX s))) rfl ?_
    obtain ⟨x1, hc, h⟩ := dp_bd_inv h
    refine dp_cSN okX3_right okX5_isIn (as := [.inl x.2, .inl v2]) (r := []) rfl lk_NearLiars_Run_76 npX5_isIn (c_X5_isIn (hX s) x.2 v2 x1 hc) rfl (Nat.le_of_ble_eq_true rfl) (Nat.le_of_ble_eq_true rfl) (Nat.le_refl _) (Nat.le_refl _) ?_
    refine dp_blk okX3_right 0 (S' := (20, [some (.inr (some 4)), some (.inr (some 1)), some (.inl v2), some (.inl x.1), some (.inl x.2)], [.inl x1], (hX s))) rfl ?_
    refine dp_if0 okX3_right rfl (fun (c : x1 = (0 : Int32)) => ?_) (fun (c : ¬ x1 = (0 : Int32)) => ?_)
    · have h := dp_ip c h
      refine dp_blk okX3_right 0 (S' := (40, [some (.inr (some 4)), some (.inr (some 1)), some (.inl v2), some (.inl x.1), some (.inl x.2)], [], (hX s))) rfl ?_
      exact wj_X3_right_40 s v2 x.1 x.2 _ h hk
    · have h := dp_ic c h
      refine dp_blk okX3_right 3 (S' := (29, [some (.inr (some 4)), some (.inr (some 1)), some (.inl v2), some (.inl x.1), some (.inl x.2)], [.inl x.2, .inr (some 6)], (hX s))) rfl ?_
      obtain ⟨hi, h⟩ := dp_ite h
      refine dp_ial (g := (s.2 3)) okX3_right rfl rfl (dp_inb_in hi) ?_
      refine dp_blk okX3_right 2 (S' := (34, [some (.inr (some 4)), some (.inr (some 1)), some (.inl v2), some (.inl x.1), some (.inl x.2)], [.inl (s.1 4), .inl ((s.2 3) (x.2).toNatClampNeg)], (hX s))) rfl ?_
      refine dp_if okX3_right rfl (fun (c : ¬ ((s.2 3) (x.2).toNatClampNeg) = (s.1 4)) => ?_) (fun (c : ((s.2 3) (x.2).toNatClampNeg) = (s.1 4)) => ?_)
      · have h := dp_ic c h
        refine dp_blk okX3_right 0 (S' := (40, [some (.inr (some 4)), some (.inr (some 1)), some (.inl v2), some (.inl x.1), some (.inl x.2)], [], (hX s))) rfl ?_
        exact wj_X3_right_40 s v2 x.1 x.2 _ h hk
      · have h := dp_ip c h
        refine dp_blk okX3_right 1 (S' := (40, [some (.inr (some 4)), some (.inr (some 1)), some (.inl v2), some (.inl (x.1 + (1 : Int32))), some (.inl x.2)], [], (hX s))) rfl ?_
        exact wj_X3_right_40 s v2 (x.1 + (1 : Int32)) x.2 _ h hk
def j_X3_right (s : dp_Z) (v2 : Int32) : Option Int32 := (dp_bd (dp_loop (jb_X3_right_5 s v2) dp_F ((0 : Int32), (0 : Int32))) fun x2 => (some x2))
set_option maxHeartbeats 1000000 in
set_option maxRecDepth 20000 in
theorem we_X3_right {post : Option dp_V → dp_H → Prop} {h0 : dp_H} (s : dp_Z) (v2 : Int32) (o : Int32) (h : j_X3_right s v2 = some o) (hk : post (some (.inl o)) (hX s)) : dp_W 1 mX3_right false h0 0 0 post 0 0 (0, [some (.inr (some 4)), some (.inr (some 1)), some (.inl v2), none, none], [], (hX s)) := by
  unfold j_X3_right at h
  refine dp_blk okX3_right 4 (S' := (5, [some (.inr (some 4)), some (.inr (some 1)), some (.inl v2), some (.inl (0 : Int32)), some (.inl (0 : Int32))], [], (hX s))) rfl ?_
  obtain ⟨x2, hl, h⟩ := dp_bd_inv h
  refine dp_loopW (wl_X3_right_5 s v2) dp_F ((0 : Int32), (0 : Int32)) x2 hl ?_
  show dp_W 1 mX3_right false h0 0 0 post 0 0 (46, [none, none, none, some (.inl x2), none], [], (hX s))
  refine dp_blk okX3_right 1 (S' := (47, [none, none, none, some (.inl x2), none], [.inl x2], (hX s))) rfl ?_
  cases h
  exact dp_iret okX3_right rfl rfl hk
theorem c_X3_right (s : dp_Z) (v2 : Int32) (o : Int32) (h : j_X3_right s v2 = some o) : dp_C 1 mX3_right false [.inr (some 4), .inr (some 1), .inl v2] (hX s) 0 0 (dp_R (some (.inl o)) (hX s)) := dp_C_of okX3_right [some (.inr (some 4)), some (.inr (some 1)), some (.inl v2), none, none] rfl (Nat.le_of_ble_eq_true rfl) (we_X3_right s v2 o h ⟨rfl, rfl⟩)
def jj_X3_misled_52 (s : dp_Z) (v2 v3 v4 : Int32) : Option ((Int32 × Int32) ⊕ Int32) := (some (.inl (v3, (v4 + (1 : Int32)))))
set_option maxHeartbeats 1000000 in
set_option maxRecDepth 20000 in
theorem wj_X3_misled_52 {post : Option dp_V → dp_H → Prop} {h0 : dp_H} (s : dp_Z) (v2 v3 v4 : Int32) (o : ((Int32 × Int32) ⊕ Int32)) (h : jj_X3_misled_52 s v2 v3 v4 = some o) (hk : dp_LK (fun x : (Int32 × Int32) => dp_W 1 mX3_misled false h0 0 0 post 0 0 (5, [some (.inr (some 4)), some (.inr (some 1)), some (.inl v2), some (.inl x.1), some (.inl x.2)], [], (hX s))) (fun x : Int32 => dp_W 1 mX3_misled false h0 0 0 post 0 0 (58, [none, none, none, some (.inl x), none], [], (hX s))) o) : dp_W 1 mX3_misled false h0 0 0 post 0 0 (52, [some (.inr (some 4)), some (.inr (some 1)), some (.inl v2), some (.inl v3), some (.inl v4)], [], (hX s)) := by
  unfold jj_X3_misled_52 at h
  refine dp_blk okX3_misled 2 (S' := (5, [some (.inr (some 4)), some (.inr (some 1)), some (.inl v2), some (.inl v3), some (.inl (v4 + (1 : Int32)))], [], (hX s))) rfl ?_
  cases h
  exact hk
def jb_X3_misled_5 (s : dp_Z) (v2 : Int32) (x : (Int32 × Int32)) : Option ((Int32 × Int32) ⊕ Int32) := (if (s.1 0) ≤ x.2 then (some (.inr x.1)) else (dp_bd (j_X5_isIn x.2 v2) fun x1 => (if x1 = (0 : Int32) then (jj_X3_misled_52 s v2 x.1 x.2) else (if dp_inb x.2 12 = true then (if ((s.2 3) (x.2).toNatClampNeg) = (-9 : Int32) then (jj_X3_misled_52 s v2 x.1 x.2) else (if dp_inb x.2 12 = true then (if ((s.2 3) (x.2).toNatClampNeg) = (s.1 4) then (jj_X3_misled_52 s v2 x.1 x.2) else (jj_X3_misled_52 s v2 (x.1 + (1 : Int32)) x.2)) else none)) else none))))
set_option maxHeartbeats 1000000 in
set_option maxRecDepth 20000 in
theorem wl_X3_misled_5 {post : Option dp_V → dp_H → Prop} {h0 : dp_H} (s : dp_Z) (v2 : Int32) (x : (Int32 × Int32)) (o : ((Int32 × Int32) ⊕ Int32)) (h : jb_X3_misled_5 s v2 x = some o) (hk : dp_LK (fun x : (Int32 × Int32) => dp_W 1 mX3_misled false h0 0 0 post 0 0 (5, [some (.inr (some 4)), some (.inr (some 1)), some (.inl v2), some (.inl x.1), some (.inl x.2)], [], (hX s))) (fun x : Int32 => dp_W 1 mX3_misled false h0 0 0 post 0 0 (58, [none, none, none, some (.inl x), none], [], (hX s))) o) : dp_W 1 mX3_misled false h0 0 0 post 0 0 (5, [some (.inr (some 4)), some (.inr (some 1)), some (.inl v2), some (.inl x.1), some (.inl x.2)], [], (hX s)) := by
  unfold jb_X3_misled_5 at h
  refine dp_blk okX3_misled 3 (S' := (11, [some (.inr (some 4)), some (.inr (some 1)), some (.inl v2), some (.inl x.1), some (.inl x.2)], [.inl (s.1 0), .inl x.2], (hX s))) rfl ?_
  refine dp_if okX3_misled rfl (fun (c : (s.1 0) ≤ x.2) => ?_) (fun (c : ¬ (s.1 0) ≤ x.2) => ?_)
  · have h := dp_ip c h
    refine dp_blk okX3_misled 0 (S' := (58, [some (.inr (some 4)), some (.inr (some 1)), some (.inl v2), some (.inl x.1), some (.inl x.2)], [], (hX s))) rfl ?_
    cases h
    refine dp_fg [false, false, false, true, false] (L' := [none, none, none, some (.inl x.1), none]) rfl rfl ?_
    exact hk
  · have h := dp_ic c h
    refine dp_blk okX3_misled 2 (S' := (17, [some (.inr (some 4)), some (.inr (some 1)), some (.inl v2), some (.inl x.1), some (.inl x.2)], [.inl v2, .inl x.2], (hX s))) rfl ?_
    obtain ⟨x1, hc, h⟩ := dp_bd_inv h
    refine dp_cSN okX3_misled okX5_isIn (as := [.inl x.2, .inl v2]) (r := []) rfl lk_NearLiars_Run_76 npX5_isIn (c_X5_isIn (hX s) x.2 v2 x1 hc) rfl (Nat.le_of_ble_eq_true rfl) (Nat.le_of_ble_eq_true rfl) (Nat.le_refl _) (Nat.le_refl _) ?_
    refine dp_blk okX3_misled 0 (S' := (20, [some (.inr (some 4)), some (.inr (some 1)), some (.inl v2), some (.inl x.1), some (.inl x.2)], [.inl x1], (hX s))) rfl ?_
    refine dp_if0 okX3_misled rfl (fun (c : x1 = (0 : Int32)) => ?_) (fun (c : ¬ x1 = (0 : Int32)) => ?_)
    · have h := dp_ip c h
      refine dp_blk okX3_misled 0 (S' := (52, [some (.inr (some 4)), some (.inr (some 1)), some (.inl v2), some (.inl x.1), some (.inl x.2)], [], (hX s))) rfl ?_
      exact wj_X3_misled_52 s v2 x.1 x.2 _ h hk
    · have h := dp_ic c h
      refine dp_blk okX3_misled 3 (S' := (29, [some (.inr (some 4)), some (.inr (some 1)), some (.inl v2), some (.inl x.1), some (.inl x.2)], [.inl x.2, .inr (some 6)], (hX s))) rfl ?_
      obtain ⟨hi, h⟩ := dp_ite h
      refine dp_ial (g := (s.2 3)) okX3_misled rfl rfl (dp_inb_in hi) ?_
      refine dp_blk okX3_misled 1 (S' := (32, [some (.inr (some 4)), some (.inr (some 1)), some (.inl v2), some (.inl x.1), some (.inl x.2)], [.inl (-9 : Int32), .inl ((s.2 3) (x.2).toNatClampNeg)], (hX s))) rfl ?_
      refine dp_if okX3_misled rfl (fun (c : ((s.2 3) (x.2).toNatClampNeg) = (-9 : Int32)) => ?_) (fun (c : ¬ ((s.2 3) (x.2).toNatClampNeg) = (-9 : Int32)) => ?_)
      · have h := dp_ip c h
        refine dp_blk okX3_misled 0 (S' := (52, [some (.inr (some 4)), some (.inr (some 1)), some (.inl v2), some (.inl x.1), some (.inl x.2)], [], (hX s))) rfl ?_
        exact wj_X3_misled_52 s v2 x.1 x.2 _ h hk
      · have h := dp_ic c h
        refine dp_blk okX3_misled 3 (S' := (41, [some (.inr (some 4)), some (.inr (some 1)), some (.inl v2), some (.inl x.1), some (.inl x.2)], [.inl x.2, .inr (some 6)], (hX s))) rfl ?_
        obtain ⟨hi, h⟩ := dp_ite h
        refine dp_ial (g := (s.2 3)) okX3_misled rfl rfl (dp_inb_in hi) ?_
        refine dp_blk okX3_misled 2 (S' := (46, [some (.inr (some 4)), some (.inr (some 1)), some (.inl v2), some (.inl x.1), some (.inl x.2)], [.inl (s.1 4), .inl ((s.2 3) (x.2).toNatClampNeg)], (hX s))) rfl ?_
        refine dp_if okX3_misled rfl (fun (c : ((s.2 3) (x.2).toNatClampNeg) = (s.1 4)) => ?_) (fun (c : ¬ ((s.2 3) (x.2).toNatClampNeg) = (s.1 4)) => ?_)
        · have h := dp_ip c h
          refine dp_blk okX3_misled 0 (S' := (52, [some (.inr (some 4)), some (.inr (some 1)), some (.inl v2), some (.inl x.1), some (.inl x.2)], [], (hX s))) rfl ?_
          exact wj_X3_misled_52 s v2 x.1 x.2 _ h hk
        · have h := dp_ic c h
          refine dp_blk okX3_misled 1 (S' := (52, [some (.inr (some 4)), some (.inr (some 1)), some (.inl v2), some (.inl (x.1 + (1 : Int32))), some (.inl x.2)], [], (hX s))) rfl ?_
          exact wj_X3_misled_52 s v2 (x.1 + (1 : Int32)) x.2 _ h hk
def j_X3_misled (s : dp_Z) (v2 : Int32) : Option Int32 := (dp_bd (dp_loop (jb_X3_misled_5 s v2) dp_F ((0 : Int32), (0 : Int32))) fun x2 => (some x2))
set_option maxHeartbeats 1000000 in
set_option maxRecDepth 20000 in
theorem we_X3_misled {post : Option dp_V → dp_H → Prop} {h0 : dp_H} (s : dp_Z) (v2 : Int32) (o : Int32) (h : j_X3_misled s v2 = some o) (hk : post (some (.inl o)) (hX s)) : dp_W 1 mX3_misled false h0 0 0 post 0 0 (0, [some (.inr (some 4)), some (.inr (some 1)), some (.inl v2), none, none], [], (hX s)) := by
  unfold j_X3_misled at h
  refine dp_blk okX3_misled 4 (S' := (5, [some (.inr (some 4)), some (.inr (some 1)), some (.inl v2), some (.inl (0 : Int32)), some (.inl (0 : Int32))], [], (hX s))) rfl ?_
  obtain ⟨x2, hl, h⟩ := dp_bd_inv h
  refine dp_loopW (wl_X3_misled_5 s v2) dp_F ((0 : Int32), (0 : Int32)) x2 hl ?_
  show dp_W 1 mX3_misled false h0 0 0 post 0 0 (58, [none, none, none, some (.inl x2), none], [], (hX s))
  refine dp_blk okX3_misled 1 (S' := (59, [none, none, none, some (.inl x2), none], [.inl x2], (hX s))) rfl ?_
  cases h
  exact dp_iret okX3_misled rfl rfl hk
theorem c_X3_misled (s : dp_Z) (v2 : Int32) (o : Int32) (h : j_X3_misled s v2 = some o) : dp_C 1 mX3_misled false [.inr (some 4), .inr (some 1), .inl v2] (hX s) 0 0 (dp_R (some (.inl o)) (hX s)) := dp_C_of okX3_misled [some (.inr (some 4)), some (.inr (some 1)), some (.inl v2), none, none] rfl (Nat.le_of_ble_eq_true rfl) (we_X3_misled s v2 o h ⟨rfl, rfl⟩)
def jj_X3_lastTake_51 (s : dp_Z) (v2 v3 v4 : Int32) : Option ((Int32 × Int32) ⊕ (Int32 ⊕ Int32)) := (some (.inl (v3, (v4 + (1 : Int32)))))
set_option maxHeartbeats 1000000 in
set_option maxRecDepth 20000 in
theorem wj_X3_lastTake_51 {post : Option dp_V → dp_H → Prop} {h0 : dp_H} (s : dp_Z) (v2 v3 v4 : Int32) (o : ((Int32 × Int32) ⊕ (Int32 ⊕ Int32))) (h : jj_X3_lastTake_51 s v2 v3 v4 = some o) (hk : dp_LK (fun x : (Int32 × Int32) => dp_W 1 mX3_lastTake false h0 0 0 post 0 0 (6, [some (.inr (some 4)), some (.inr (some 1)), some (.inl v2), some (.inl x.1), some (.inl x.2)], [], (hX s))) (dp_LK (fun o : Int32 => post (some (.inl o)) (hX s)) (fun x : Int32 => dp_W 1 mX3_lastTake false h0 0 0 post 0 0 (57, [none, none, none, some (.inl x), none], [], (hX s)))) o) : dp_W 1 mX3_lastTake false h0 0 0 post 0 0 (51, [some (.inr (some 4)), some (.inr (some 1)), some (.inl v2), some (.inl v3), some (.inl v4)], [], (hX s)) := by
  unfold jj_X3_lastTake_51 at h
  refine dp_blk okX3_lastTake 2 (S' := (6, [some (.inr (some 4)), some (.inr (some 1)), some (.inl v2), some (.inl v3), some (.inl (v4 + (1 : Int32)))], [], (hX s))) rfl ?_
  cases h
  exact hk
def jb_X3_lastTake_6 (s : dp_Z) (v2 : Int32) (x : (Int32 × Int32)) : Option ((Int32 × Int32) ⊕ (Int32 ⊕ Int32)) := (if (s.1 0) ≤ x.2 then (some (.inr (.inr x.1))) else (dp_bd (j_X5_isIn x.2 v2) fun x1 => (if x1 = (0 : Int32) then (jj_X3_lastTake_51 s v2 x.1 x.2) else (if dp_inb x.2 12 = true then (if ((s.2 3) (x.2).toNatClampNeg) = (-9 : Int32) then (some (.inr (.inl (-9 : Int32)))) else (if dp_inb x.2 12 = true then (dp_bd (some (if x.1 < ((s.2 4) (x.2).toNatClampNeg) then ((s.2 4) (x.2).toNatClampNeg) else x.1)) fun y2 => (jj_X3_lastTake_51 s v2 y2 x.2)) else none)) else none))))
set_option maxHeartbeats 1000000 in
set_option maxRecDepth 20000 in
theorem wl_X3_lastTake_6 {post : Option dp_V → dp_H → Prop} {h0 : dp_H} (s : dp_Z) (v2 : Int32) (x : (Int32 × Int32)) (o : ((Int32 × Int32) ⊕ (Int32 ⊕ Int32))) (h : jb_X3_lastTake_6 s v2 x = some o) (hk : dp_LK (fun x : (Int32 × Int32) => dp_W 1 mX3_lastTake false h0 0 0 post 0 0 (6, [some (.inr (some 4)), some (.inr (some 1)), some (.inl v2), some (.inl x.1), some (.inl x.2)], [], (hX s))) (dp_LK (fun o : Int32 => post (some (.inl o)) (hX s)) (fun x : Int32 => dp_W 1 mX3_lastTake false h0 0 0 post 0 0 (57, [none, none, none, some (.inl x), none], [], (hX s)))) o) : dp_W 1 mX3_lastTake false h0 0 0 post 0 0 (6, [some (.inr (some 4)), some (.inr (some 1)), some (.inl v2), some (.inl x.1), some (.inl x.2)], [], (hX s)) := by
  unfold jb_X3_lastTake_6 at h
  refine dp_blk okX3_lastTake 3 (S' := (12, [some (.inr (some 4)), some (.inr (some 1)), some (.inl v2), some (.inl x.1), some (.inl x.2)], [.inl (s.1 0), .inl x.2], (hX s))) rfl ?_
  refine dp_if okX3_lastTake rfl (fun (c : (s.1 0) ≤ x.2) => ?_) (fun (c : ¬ (s.1 0) ≤ x.2) => ?_)
  · have h := dp_ip c h
    refine dp_blk okX3_lastTake 0 (S' := (57, [some (.inr (some 4)), some (.inr (some 1)), some (.inl v2), some (.inl x.1), some (.inl x.2)], [], (hX s))) rfl ?_
    cases h
    refine dp_fg [false, false, false, true, false] (L' := [none, none, none, some (.inl x.1), none]) rfl rfl ?_
    exact hk
  · have h := dp_ic c h
    refine dp_blk okX3_lastTake 2 (S' := (18, [some (.inr (some 4)), some (.inr (some 1)), some (.inl v2), some (.inl x.1), some (.inl x.2)], [.inl v2, .inl x.2], (hX s))) rfl ?_
    obtain ⟨x1, hc, h⟩ := dp_bd_inv h
    refine dp_cSN okX3_lastTake okX5_isIn (as := [.inl x.2, .inl v2]) (r := []) rfl lk_NearLiars_Run_76 npX5_isIn (c_X5_isIn (hX s) x.2 v2 x1 hc) rfl (Nat.le_of_ble_eq_true rfl) (Nat.le_of_ble_eq_true rfl) (Nat.le_refl _) (Nat.le_refl _) ?_
    refine dp_blk okX3_lastTake 0 (S' := (21, [some (.inr (some 4)), some (.inr (some 1)), some (.inl v2), some (.inl x.1), some (.inl x.2)], [.inl x1], (hX s))) rfl ?_
    refine dp_if0 okX3_lastTake rfl (fun (c : x1 = (0 : Int32)) => ?_) (fun (c : ¬ x1 = (0 : Int32)) => ?_)
    · have h := dp_ip c h
      refine dp_blk okX3_lastTake 0 (S' := (51, [some (.inr (some 4)), some (.inr (some 1)), some (.inl v2), some (.inl x.1), some (.inl x.2)], [], (hX s))) rfl ?_
      exact wj_X3_lastTake_51 s v2 x.1 x.2 _ h hk
    · have h := dp_ic c h
      refine dp_blk okX3_lastTake 3 (S' := (30, [some (.inr (some 4)), some (.inr (some 1)), some (.inl v2), some (.inl x.1), some (.inl x.2)], [.inl x.2, .inr (some 6)], (hX s))) rfl ?_
      obtain ⟨hi, h⟩ := dp_ite h
      refine dp_ial (g := (s.2 3)) okX3_lastTake rfl rfl (dp_inb_in hi) ?_
      refine dp_blk okX3_lastTake 1 (S' := (33, [some (.inr (some 4)), some (.inr (some 1)), some (.inl v2), some (.inl x.1), some (.inl x.2)], [.inl (-9 : Int32), .inl ((s.2 3) (x.2).toNatClampNeg)], (hX s))) rfl ?_
      refine dp_if okX3_lastTake rfl (fun (c : ¬ ((s.2 3) (x.2).toNatClampNeg) = (-9 : Int32)) => ?_) (fun (c : ((s.2 3) (x.2).toNatClampNeg) = (-9 : Int32)) => ?_)
      · have h := dp_ic c h
        refine dp_blk okX3_lastTake 4 (S' := (46, [some (.inr (some 4)), some (.inr (some 1)), some (.inl v2), some (.inl x.1), some (.inl x.2)], [.inl x.2, .inr (some 7), .inl x.1], (hX s))) rfl ?_
        obtain ⟨hi, h⟩ := dp_ite h
        refine dp_ial (g := (s.2 4)) okX3_lastTake rfl rfl (dp_inb_in hi) ?_
        refine dp_blk okX3_lastTake 0 (S' := (47, [some (.inr (some 4)), some (.inr (some 1)), some (.inl v2), some (.inl x.1), some (.inl x.2)], [.inl ((s.2 4) (x.2).toNatClampNeg), .inl x.1], (hX s))) rfl ?_
        refine dp_mmax okX3_lastTake rfl dq_253 dq_254 dq_42 dq_255 (Nat.le_of_ble_eq_true rfl) (Nat.le_of_ble_eq_true rfl) (Nat.le_refl _) (Nat.le_refl _) ?_
        obtain ⟨y2, hy, h⟩ := dp_bd_inv h
        have hy := Option.some.inj hy
        refine dp_blk okX3_lastTake 1 (S' := (51, [some (.inr (some 4)), some (.inr (some 1)), some (.inl v2), some (.inl y2), some (.inl x.2)], [], (hX s))) (by subst hy; rfl) ?_
        refine dp_blk okX3_lastTake 0 (S' := (51, [some (.inr (some 4)), some (.inr (some 1)), some (.inl v2), some (.inl y2), some (.inl x.2)], [], (hX s))) rfl ?_
        exact wj_X3_lastTake_51 s v2 y2 x.2 _ h hk
      · have h := dp_ip c h
        refine dp_blk okX3_lastTake 1 (S' := (38, [some (.inr (some 4)), some (.inr (some 1)), some (.inl v2), some (.inl x.1), some (.inl x.2)], [.inl (-9 : Int32)], (hX s))) rfl ?_
        cases h
        exact dp_iret okX3_lastTake rfl rfl hk
def j_X3_lastTake (s : dp_Z) (v2 : Int32) : Option Int32 := (dp_bd (dp_loop (jb_X3_lastTake_6 s v2) dp_F ((-9 : Int32), (0 : Int32))) fun x => Sum.elim (fun x3 => (some x3)) (fun x3 => (some x3)) x)
set_option maxHeartbeats 1000000 in
set_option maxRecDepth 20000 in
theorem we_X3_lastTake {post : Option dp_V → dp_H → Prop} {h0 : dp_H} (s : dp_Z) (v2 : Int32) (o : Int32) (h : j_X3_lastTake s v2 = some o) (hk : post (some (.inl o)) (hX s)) : dp_W 1 mX3_lastTake false h0 0 0 post 0 0 (0, [some (.inr (some 4)), some (.inr (some 1)), some (.inl v2), none, none], [], (hX s)) := by
  unfold j_X3_lastTake at h
  refine dp_blk okX3_lastTake 4 (S' := (6, [some (.inr (some 4)), some (.inr (some 1)), some (.inl v2), some (.inl (-9 : Int32)), some (.inl (0 : Int32))], [], (hX s))) rfl ?_
  obtain ⟨x3, hl, h⟩ := dp_bd_inv h
  refine dp_loopW (wl_X3_lastTake_6 s v2) dp_F ((-9 : Int32), (0 : Int32)) x3 hl ?_
  rcases x3 with x3 | x3
  · simp only [Sum.elim_inl] at h
    cases h
    exact hk
  · simp only [Sum.elim_inr] at h
    show dp_W 1 mX3_lastTake false h0 0 0 post 0 0 (57, [none, none, none, some (.inl x3), none], [], (hX s))
    refine dp_blk okX3_lastTake 1 (S' := (58, [none, none, none, some (.inl x3), none], [.inl x3], (hX s))) rfl ?_
    cases h
    exact dp_iret okX3_lastTake rfl rfl hk
theorem c_X3_lastTake (s : dp_Z) (v2 : Int32) (o : Int32) (h : j_X3_lastTake s v2 = some o) : dp_C 1 mX3_lastTake false [.inr (some 4), .inr (some 1), .inl v2] (hX s) 0 0 (dp_R (some (.inl o)) (hX s)) := dp_C_of okX3_lastTake [some (.inr (some 4)), some (.inr (some 1)), some (.inl v2), none, none] rfl (Nat.le_of_ble_eq_true rfl) (we_X3_lastTake s v2 o h ⟨rfl, rfl⟩)
def jj_X4_take_64 (s : dp_Z) (v2 : Int32) : Option ((dp_Z × Int32) ⊕ dp_Z) := (some (.inl (s, (v2 + (1 : Int32)))))
set_option maxHeartbeats 1000000 in
set_option maxRecDepth 20000 in
theorem wj_X4_take_64 {post : Option dp_V → dp_H → Prop} {h0 : dp_H} (s : dp_Z) (v2 : Int32) (o : ((dp_Z × Int32) ⊕ dp_Z)) (h : jj_X4_take_64 s v2 = some o) (hk : dp_LK (fun x : (dp_Z × Int32) => dp_W 4 mX4_take false h0 0 0 post 0 0 (22, [some (.inr (some 9)), some (.inr (some 1)), some (.inl x.2)], [], (hX x.1))) (fun x : dp_Z => dp_W 4 mX4_take false h0 0 0 post 0 0 (70, [none, none, none], [], (hX x))) o) : dp_W 4 mX4_take false h0 0 0 post 0 0 (64, [some (.inr (some 9)), some (.inr (some 1)), some (.inl v2)], [], (hX s)) := by
  unfold jj_X4_take_64 at h
  refine dp_blk okX4_take 2 (S' := (22, [some (.inr (some 9)), some (.inr (some 1)), some (.inl (v2 + (1 : Int32)))], [], (hX s))) rfl ?_
  cases h
  exact hk
def jj_X4_weigh_64 (s : dp_Z) (v1 v2 : Int32) : Option dp_Z := (dp_bd (some (dp_sf s 9 v1)) fun s6 => (dp_bd (some (dp_sf s6 10 v2)) fun s7 => (some s7)))
set_option maxHeartbeats 1000000 in
set_option maxRecDepth 20000 in
theorem wj_X4_weigh_64 {post : Option dp_V → dp_H → Prop} {h0 : dp_H} (s : dp_Z) (v1 v2 : Int32) (o : dp_Z) (h : jj_X4_weigh_64 s v1 v2 = some o) (hk : post none (hX o)) : dp_W 1 mX4_weigh false h0 0 0 post 0 0 (64, [some (.inr (some 9)), some (.inl v1), some (.inl v2), none, none], [], (hX s)) := by
  unfold jj_X4_weigh_64 at h
  refine dp_blk okX4_weigh 2 (S' := (66, [some (.inr (some 9)), some (.inl v1), some (.inl v2), none, none], [.inl v1, .inr (some 9)], (hX s))) rfl ?_
  obtain ⟨s6, hs, h⟩ := dp_bd_inv h
  have hs := Option.some.inj hs
  refine dp_pfe okX4_weigh rfl (by decide) (qhX_9 s) (Nat.le_of_ble_eq_true rfl) ((phX_9 s v1).trans (congrArg hX hs)) ?_
  refine dp_blk okX4_weigh 2 (S' := (71, [some (.inr (some 9)), some (.inl v1), some (.inl v2), none, none], [.inl v2, .inr (some 9)], (hX s6))) rfl ?_
  obtain ⟨s7, hs, h⟩ := dp_bd_inv h
  have hs := Option.some.inj hs
  refine dp_pfe okX4_weigh rfl (by decide) (qhX_9 s6) (Nat.le_of_ble_eq_true rfl) ((phX_10 s6 v2).trans (congrArg hX hs)) ?_
  refine dp_blk okX4_weigh 0 (S' := (74, [some (.inr (some 9)), some (.inl v1), some (.inl v2), none, none], [], (hX s7))) rfl ?_
  cases h
  exact dp_vret okX4_weigh rfl rfl hk
def jj_X4_weigh_24 (s : dp_Z) (v1 v2 : Int32) : Option dp_Z := (dp_bd (j_J6_bitCount_0f7a4 v2) fun x2 => (dp_bd (j_J6_bitCount_0f7a4 (s.1 10)) fun x3 => (dp_bd (j_J6_bitCount_0f7a4 (s.1 9)) fun x4 => (dp_bd (j_J6_bitCount_0f7a4 v1) fun x5 => (if (0 : Int32) < (x2 - x3) then (jj_X4_weigh_64 s v1 v2) else (if (x2 - x3) = (0 : Int32) then (if (x4 - x5) ≤ (0 : Int32) then (some s) else (jj_X4_weigh_64 s v1 v2)) else (some s)))))))
set_option maxHeartbeats 1000000 in
set_option maxRecDepth 20000 in
theorem wj_X4_weigh_24 {post : Option dp_V → dp_H → Prop} {h0 : dp_H} (s : dp_Z) (v1 v2 : Int32) (o : dp_Z) (h : jj_X4_weigh_24 s v1 v2 = some o) (hk : post none (hX o)) : dp_W 1 mX4_weigh false h0 0 0 post 0 0 (24, [some (.inr (some 9)), some (.inl v1), some (.inl v2), none, none], [], (hX s)) := by
  unfold jj_X4_weigh_24 at h
  refine dp_blk okX4_weigh 1 (S' := (25, [some (.inr (some 9)), some (.inl v1), some (.inl v2), none, none], [.inl v2], (hX s))) rfl ?_
  obtain ⟨x2, hc, h⟩ := dp_bd_inv h
  refine dp_cS okX4_weigh okJ6_bitCount_0f7a4 (as := [.inl v2]) (r := []) rfl lk_NearLiars_Survey_47 npJ6_bitCount_0f7a4 (c_J6_bitCount_0f7a4 (hX s) v2 x2 hc) rfl (Nat.le_of_ble_eq_true rfl) (Nat.le_of_ble_eq_true rfl) (Nat.le_refl _) (Nat.le_refl _) ?_
  refine dp_blk okX4_weigh 2 (S' := (32, [some (.inr (some 9)), some (.inl v1), some (.inl v2), none, none], [.inl (s.1 10), .inl x2], (hX s))) rfl ?_
  obtain ⟨x3, hc, h⟩ := dp_bd_inv h
  refine dp_cS okX4_weigh okJ6_bitCount_0f7a4 (as := [.inl (s.1 10)]) (r := [.inl x2]) rfl lk_NearLiars_Survey_47 npJ6_bitCount_0f7a4 (c_J6_bitCount_0f7a4 (hX s) (s.1 10) x3 hc) rfl (Nat.le_of_ble_eq_true rfl) (Nat.le_of_ble_eq_true rfl) (Nat.le_refl _) (Nat.le_refl _) ?_
  refine dp_blk okX4_weigh 4 (S' := (41, [some (.inr (some 9)), some (.inl v1), some (.inl v2), some (.inl (x2 - x3)), none], [.inl (s.1 9)], (hX s))) rfl ?_
  obtain ⟨x4, hc, h⟩ := dp_bd_inv h
  refine dp_cS okX4_weigh okJ6_bitCount_0f7a4 (as := [.inl (s.1 9)]) (r := []) rfl lk_NearLiars_Survey_47 npJ6_bitCount_0f7a4 (c_J6_bitCount_0f7a4 (hX s) (s.1 9) x4 hc) rfl (Nat.le_of_ble_eq_true rfl) (Nat.le_of_ble_eq_true rfl) (Nat.le_refl _) (Nat.le_refl _) ?_
  refine dp_blk okX4_weigh 1 (S' := (45, [some (.inr (some 9)), some (.inl v1), some (.inl v2), some (.inl (x2 - x3)), none], [.inl v1, .inl x4], (hX s))) rfl ?_
  obtain ⟨x5, hc, h⟩ := dp_bd_inv h
  refine dp_cS okX4_weigh okJ6_bitCount_0f7a4 (as := [.inl v1]) (r := [.inl x4]) rfl lk_NearLiars_Survey_47 npJ6_bitCount_0f7a4 (c_J6_bitCount_0f7a4 (hX s) v1 x5 hc) rfl (Nat.le_of_ble_eq_true rfl) (Nat.le_of_ble_eq_true rfl) (Nat.le_refl _) (Nat.le_refl _) ?_
  refine dp_blk okX4_weigh 3 (S' := (52, [some (.inr (some 9)), some (.inl v1), some (.inl v2), some (.inl (x2 - x3)), some (.inl (x4 - x5))], [.inl (x2 - x3)], (hX s))) rfl ?_
  refine dp_if0 okX4_weigh rfl (fun (c : (0 : Int32) < (x2 - x3)) => ?_) (fun (c : ¬ (0 : Int32) < (x2 - x3)) => ?_)
  · have h := dp_ip c h
    refine dp_blk okX4_weigh 0 (S' := (64, [some (.inr (some 9)), some (.inl v1), some (.inl v2), some (.inl (x2 - x3)), some (.inl (x4 - x5))], [], (hX s))) rfl ?_
    refine dp_fg [true, true, true, false, false] (L' := [some (.inr (some 9)), some (.inl v1), some (.inl v2), none, none]) rfl rfl ?_
    exact wj_X4_weigh_64 s v1 v2 _ h hk
  · have h := dp_ic c h
    refine dp_blk okX4_weigh 1 (S' := (56, [some (.inr (some 9)), some (.inl v1), some (.inl v2), some (.inl (x2 - x3)), some (.inl (x4 - x5))], [.inl (x2 - x3)], (hX s))) rfl ?_
    refine dp_if0 okX4_weigh rfl (fun (c : ¬ (x2 - x3) = (0 : Int32)) => ?_) (fun (c : (x2 - x3) = (0 : Int32)) => ?_)
    · have h := dp_ic c h
      refine dp_blk okX4_weigh 0 (S' := (74, [some (.inr (some 9)), some (.inl v1), some (.inl v2), some (.inl (x2 - x3)), some (.inl (x4 - x5))], [], (hX s))) rfl ?_
      cases h
      exact dp_vret okX4_weigh rfl rfl hk
    · have h := dp_ip c h
      refine dp_blk okX4_weigh 1 (S' := (61, [some (.inr (some 9)), some (.inl v1), some (.inl v2), some (.inl (x2 - x3)), some (.inl (x4 - x5))], [.inl (x4 - x5)], (hX s))) rfl ?_
      refine dp_if0 okX4_weigh rfl (fun (c : (x4 - x5) ≤ (0 : Int32)) => ?_) (fun (c : ¬ (x4 - x5) ≤ (0 : Int32)) => ?_)
      · have h := dp_ip c h
        refine dp_blk okX4_weigh 0 (S' := (74, [some (.inr (some 9)), some (.inl v1), some (.inl v2), some (.inl (x2 - x3)), some (.inl (x4 - x5))], [], (hX s))) rfl ?_
        cases h
        exact dp_vret okX4_weigh rfl rfl hk
      · have h := dp_ic c h
        refine dp_blk okX4_weigh 0 (S' := (64, [some (.inr (some 9)), some (.inl v1), some (.inl v2), some (.inl (x2 - x3)), some (.inl (x4 - x5))], [], (hX s))) rfl ?_
        refine dp_fg [true, true, true, false, false] (L' := [some (.inr (some 9)), some (.inl v1), some (.inl v2), none, none]) rfl rfl ?_
        exact wj_X4_weigh_64 s v1 v2 _ h hk
def j_X4_weigh (s : dp_Z) (v1 v2 : Int32) : Option dp_Z := (dp_bd (some (dp_sf s 11 ((s.1 11) + (1 : Int32)))) fun s1 => (if v2 = (0 : Int32) then (jj_X4_weigh_24 s1 v1 v2) else (dp_bd (some (dp_sf s1 12 ((s1.1 12) + (1 : Int32)))) fun s8 => (jj_X4_weigh_24 s8 v1 v2))))
set_option maxHeartbeats 1000000 in
set_option maxRecDepth 20000 in
theorem we_X4_weigh {post : Option dp_V → dp_H → Prop} {h0 : dp_H} (s : dp_Z) (v1 v2 : Int32) (o : dp_Z) (h : j_X4_weigh s v1 v2 = some o) (hk : post none (hX o)) : dp_W 1 mX4_weigh false h0 0 0 post 0 0 (0, [some (.inr (some 9)), some (.inl v1), some (.inl v2), none, none], [], (hX s)) := by
  unfold j_X4_weigh at h
  refine dp_blk okX4_weigh 5 (S' := (7, [some (.inr (some 9)), some (.inl v1), some (.inl v2), none, none], [.inl ((s.1 11) + (1 : Int32)), .inr (some 9)], (hX s))) rfl ?_
  obtain ⟨s1, hs, h⟩ := dp_bd_inv h
  have hs := Option.some.inj hs
  refine dp_pfe okX4_weigh rfl (by decide) (qhX_9 s) (Nat.le_of_ble_eq_true rfl) ((phX_11 s ((s.1 11) + (1 : Int32))).trans (congrArg hX hs)) ?_
  refine dp_blk okX4_weigh 1 (S' := (11, [some (.inr (some 9)), some (.inl v1), some (.inl v2), none, none], [.inl v2], (hX s1))) rfl ?_
  refine dp_if0 okX4_weigh rfl (fun (c : v2 = (0 : Int32)) => ?_) (fun (c : ¬ v2 = (0 : Int32)) => ?_)
  · have h := dp_ip c h
    refine dp_blk okX4_weigh 0 (S' := (24, [some (.inr (some 9)), some (.inl v1), some (.inl v2), none, none], [], (hX s1))) rfl ?_
    exact wj_X4_weigh_24 s1 v1 v2 _ h hk
  · have h := dp_ic c h
    refine dp_blk okX4_weigh 5 (S' := (21, [some (.inr (some 9)), some (.inl v1), some (.inl v2), none, none], [.inl ((s1.1 12) + (1 : Int32)), .inr (some 9)], (hX s1))) rfl ?_
    obtain ⟨s8, hs, h⟩ := dp_bd_inv h
    have hs := Option.some.inj hs
    refine dp_pfe okX4_weigh rfl (by decide) (qhX_9 s1) (Nat.le_of_ble_eq_true rfl) ((phX_12 s1 ((s1.1 12) + (1 : Int32))).trans (congrArg hX hs)) ?_
    refine dp_blk okX4_weigh 0 (S' := (24, [some (.inr (some 9)), some (.inl v1), some (.inl v2), none, none], [], (hX s8))) rfl ?_
    exact wj_X4_weigh_24 s8 v1 v2 _ h hk
theorem c_X4_weigh (s : dp_Z) (v1 v2 : Int32) (o : dp_Z) (h : j_X4_weigh s v1 v2 = some o) : dp_C 1 mX4_weigh false [.inr (some 9), .inl v1, .inl v2] (hX s) 0 0 (dp_R none (hX o)) := dp_C_of okX4_weigh [some (.inr (some 9)), some (.inl v1), some (.inl v2), none, none] rfl (Nat.le_of_ble_eq_true rfl) (we_X4_weigh s v1 v2 o h ⟨rfl, rfl⟩)
def jb_X4_take_22 (x : (dp_Z × Int32)) : Option ((dp_Z × Int32) ⊕ dp_Z) := (dp_bd (j_X2_all x.1) fun x5 => (if x5 < x.2 then (some (.inr x.1)) else (dp_bd (j_X2_isSet x.1 x.2) fun x6 => (if x6 = (0 : Int32) then (jj_X4_take_64 x.1 x.2) else (dp_bd (j_X2_isThin x.1 x.2 (x.1.1 5)) fun x7 => (if x7 = (0 : Int32) then (jj_X4_take_64 x.1 x.2) else (dp_bd (j_X2_cut x.1 x.2 (x.1.1 5)) fun x8 => (dp_bd (j_X4_weigh x.1 x.2 x8) fun x9 => (jj_X4_take_64 x9 x.2)))))))))
set_option maxHeartbeats 1000000 in
set_option maxRecDepth 20000 in
theorem wl_X4_take_22 {post : Option dp_V → dp_H → Prop} {h0 : dp_H} (x : (dp_Z × Int32)) (o : ((dp_Z × Int32) ⊕ dp_Z)) (h : jb_X4_take_22 x = some o) (hk : dp_LK (fun x : (dp_Z × Int32) => dp_W 4 mX4_take false h0 0 0 post 0 0 (22, [some (.inr (some 9)), some (.inr (some 1)), some (.inl x.2)], [], (hX x.1))) (fun x : dp_Z => dp_W 4 mX4_take false h0 0 0 post 0 0 (70, [none, none, none], [], (hX x))) o) : dp_W 4 mX4_take false h0 0 0 post 0 0 (22, [some (.inr (some 9)), some (.inr (some 1)), some (.inl x.2)], [], (hX x.1)) := by
  unfold jb_X4_take_22 at h
  refine dp_blk okX4_take 2 (S' := (24, [some (.inr (some 9)), some (.inr (some 1)), some (.inl x.2)], [.inr (some 1), .inl x.2], (hX x.1))) rfl ?_
  obtain ⟨x5, hc, h⟩ := dp_bd_inv h
  refine dp_cV okX4_take okX2_all (as := []) (r := [.inl x.2]) rfl lk_NearLiars_Survey_22 npX2_all (c_X2_all x.1 x5 hc) rfl rfl rfl rfl (Nat.le_of_ble_eq_true rfl) (Nat.le_of_ble_eq_true rfl) (Nat.le_refl _) (Nat.le_refl _) ?_
  refine dp_blk okX4_take 0 (S' := (27, [some (.inr (some 9)), some (.inr (some 1)), some (.inl x.2)], [.inl x5, .inl x.2], (hX x.1))) rfl ?_
  refine dp_if okX4_take rfl (fun (c : x5 < x.2) => ?_) (fun (c : ¬ x5 < x.2) => ?_)
  · have h := dp_ip c h
    refine dp_blk okX4_take 0 (S' := (70, [some (.inr (some 9)), some (.inr (some 1)), some (.inl x.2)], [], (hX x.1))) rfl ?_
    cases h
    refine dp_fg [false, false, false] (L' := [none, none, none]) rfl rfl ?_
    exact hk
  · have h := dp_ic c h
    refine dp_blk okX4_take 2 (S' := (32, [some (.inr (some 9)), some (.inr (some 1)), some (.inl x.2)], [.inl x.2, .inr (some 1)], (hX x.1))) rfl ?_
    obtain ⟨x6, hc, h⟩ := dp_bd_inv h
    refine dp_cV okX4_take okX2_isSet (as := [.inl x.2]) (r := []) rfl lk_NearLiars_Survey_28 npX2_isSet (c_X2_isSet x.1 x.2 x6 hc) rfl rfl rfl rfl (Nat.le_of_ble_eq_true rfl) (Nat.le_of_ble_eq_true rfl) (Nat.le_refl _) (Nat.le_refl _) ?_
    refine dp_blk okX4_take 0 (S' := (35, [some (.inr (some 9)), some (.inr (some 1)), some (.inl x.2)], [.inl x6], (hX x.1))) rfl ?_
    refine dp_if0 okX4_take rfl (fun (c : x6 = (0 : Int32)) => ?_) (fun (c : ¬ x6 = (0 : Int32)) => ?_)
    · have h := dp_ip c h
      refine dp_blk okX4_take 0 (S' := (64, [some (.inr (some 9)), some (.inr (some 1)), some (.inl x.2)], [], (hX x.1))) rfl ?_
      exact wj_X4_take_64 x.1 x.2 _ h hk
    · have h := dp_ic c h
      refine dp_blk okX4_take 4 (S' := (44, [some (.inr (some 9)), some (.inr (some 1)), some (.inl x.2)], [.inl (x.1.1 5), .inl x.2, .inr (some 1)], (hX x.1))) rfl ?_
      obtain ⟨x7, hc, h⟩ := dp_bd_inv h
      refine dp_cV okX4_take okX2_isThin (as := [.inl x.2, .inl (x.1.1 5)]) (r := []) rfl lk_NearLiars_Survey_35 npX2_isThin (c_X2_isThin x.1 x.2 (x.1.1 5) x7 hc) rfl rfl rfl rfl (Nat.le_of_ble_eq_true rfl) (Nat.le_of_ble_eq_true rfl) (Nat.le_refl _) (Nat.le_refl _) ?_
      refine dp_blk okX4_take 0 (S' := (47, [some (.inr (some 9)), some (.inr (some 1)), some (.inl x.2)], [.inl x7], (hX x.1))) rfl ?_
      refine dp_if0 okX4_take rfl (fun (c : x7 = (0 : Int32)) => ?_) (fun (c : ¬ x7 = (0 : Int32)) => ?_)
      · have h := dp_ip c h
        refine dp_blk okX4_take 0 (S' := (64, [some (.inr (some 9)), some (.inr (some 1)), some (.inl x.2)], [], (hX x.1))) rfl ?_
        exact wj_X4_take_64 x.1 x.2 _ h hk
      · have h := dp_ic c h
        refine dp_blk okX4_take 6 (S' := (58, [some (.inr (some 9)), some (.inr (some 1)), some (.inl x.2)], [.inl (x.1.1 5), .inl x.2, .inr (some 1), .inl x.2, .inr (some 9)], (hX x.1))) rfl ?_
        obtain ⟨x8, hc, h⟩ := dp_bd_inv h
        refine dp_cV okX4_take okX2_cut (as := [.inl x.2, .inl (x.1.1 5)]) (r := [.inl x.2, .inr (some 9)]) rfl lk_NearLiars_Survey_39 npX2_cut (c_X2_cut x.1 x.2 (x.1.1 5) x8 hc) rfl rfl rfl rfl (Nat.le_of_ble_eq_true rfl) (Nat.le_of_ble_eq_true rfl) (Nat.le_refl _) (Nat.le_refl _) ?_
        refine dp_blk okX4_take 0 (S' := (61, [some (.inr (some 9)), some (.inr (some 1)), some (.inl x.2)], [.inl x8, .inl x.2, .inr (some 9)], (hX x.1))) rfl ?_
        obtain ⟨x9, hc, h⟩ := dp_bd_inv h
        refine dp_cV okX4_take okX4_weigh (as := [.inl x.2, .inl x8]) (r := []) rfl lk_NearLiars_Survey_43 npX4_weigh (c_X4_weigh x.1 x.2 x8 x9 hc) rfl rfl rfl rfl (Nat.le_of_ble_eq_true rfl) (Nat.le_of_ble_eq_true rfl) (Nat.le_refl _) (Nat.le_refl _) ?_
        refine dp_blk okX4_take 0 (S' := (64, [some (.inr (some 9)), some (.inr (some 1)), some (.inl x.2)], [], (hX x9))) rfl ?_
        exact wj_X4_take_64 x9 x.2 _ h hk
def j_X4_take (s : dp_Z) : Option dp_Z := (dp_bd (some (dp_sf s 9 (0 : Int32))) fun s1 => (dp_bd (some (dp_sf s1 10 (0 : Int32))) fun s2 => (dp_bd (some (dp_sf s2 11 (0 : Int32))) fun s3 => (dp_bd (some (dp_sf s3 12 (0 : Int32))) fun s4 => (dp_bd (dp_loop (jb_X4_take_22) dp_F (s4, (0 : Int32))) fun x10 => (some x10))))))
set_option maxHeartbeats 1000000 in
set_option maxRecDepth 20000 in
theorem we_X4_take {post : Option dp_V → dp_H → Prop} {h0 : dp_H} (s : dp_Z) (o : dp_Z) (h : j_X4_take s = some o) (hk : post none (hX o)) : dp_W 4 mX4_take false h0 0 0 post 0 0 (0, [some (.inr (some 9)), some (.inr (some 1)), none], [], (hX s)) := by
  unfold j_X4_take at h
  refine dp_blk okX4_take 2 (S' := (2, [some (.inr (some 9)), some (.inr (some 1)), none], [.inl (0 : Int32), .inr (some 9)], (hX s))) rfl ?_
  obtain ⟨s1, hs, h⟩ := dp_bd_inv h
  have hs := Option.some.inj hs
  refine dp_pfe okX4_take rfl (by decide) (qhX_9 s) (Nat.le_of_ble_eq_true rfl) ((phX_9 s (0 : Int32)).trans (congrArg hX hs)) ?_
  refine dp_blk okX4_take 2 (S' := (7, [some (.inr (some 9)), some (.inr (some 1)), none], [.inl (0 : Int32), .inr (some 9)], (hX s1))) rfl ?_
  obtain ⟨s2, hs, h⟩ := dp_bd_inv h
  have hs := Option.some.inj hs
  refine dp_pfe okX4_take rfl (by decide) (qhX_9 s1) (Nat.le_of_ble_eq_true rfl) ((phX_10 s1 (0 : Int32)).trans (congrArg hX hs)) ?_
  refine dp_blk okX4_take 2 (S' := (12, [some (.inr (some 9)), some (.inr (some 1)), none], [.inl (0 : Int32), .inr (some 9)], (hX s2))) rfl ?_
  obtain ⟨s3, hs, h⟩ := dp_bd_inv h
  have hs := Option.some.inj hs
  refine dp_pfe okX4_take rfl (by decide) (qhX_9 s2) (Nat.le_of_ble_eq_true rfl) ((phX_11 s2 (0 : Int32)).trans (congrArg hX hs)) ?_
  refine dp_blk okX4_take 2 (S' := (17, [some (.inr (some 9)), some (.inr (some 1)), none], [.inl (0 : Int32), .inr (some 9)], (hX s3))) rfl ?_
  obtain ⟨s4, hs, h⟩ := dp_bd_inv h
  have hs := Option.some.inj hs
  refine dp_pfe okX4_take rfl (by decide) (qhX_9 s3) (Nat.le_of_ble_eq_true rfl) ((phX_12 s3 (0 : Int32)).trans (congrArg hX hs)) ?_
  refine dp_blk okX4_take 2 (S' := (22, [some (.inr (some 9)), some (.inr (some 1)), some (.inl (0 : Int32))], [], (hX s4))) rfl ?_
  obtain ⟨x10, hl, h⟩ := dp_bd_inv h
  refine dp_loopW (wl_X4_take_22) dp_F (s4, (0 : Int32)) x10 hl ?_
  show dp_W 4 mX4_take false h0 0 0 post 0 0 (70, [none, none, none], [], (hX x10))
  refine dp_blk okX4_take 0 (S' := (70, [none, none, none], [], (hX x10))) rfl ?_
  cases h
  exact dp_vret okX4_take rfl rfl hk
theorem c_X4_take (s : dp_Z) (o : dp_Z) (h : j_X4_take s = some o) : dp_C 4 mX4_take false [.inr (some 9), .inr (some 1)] (hX s) 0 0 (dp_R none (hX o)) := dp_C_of okX4_take [some (.inr (some 9)), some (.inr (some 1)), none] rfl (Nat.le_of_ble_eq_true rfl) (we_X4_take s o h ⟨rfl, rfl⟩)
