/-! ===== printed by program: the pure functions of the methods, and that the bytecode does what they say ===== -/
def j_X0_letGo (s : dp_Z) : Option dp_Z := (dp_bd (some (dp_sf s 15 (0 : Int32))) fun s1 => (dp_bd (some (dp_sf s1 14 (0 : Int32))) fun s2 => (some s2)))
set_option maxHeartbeats 1000000 in
set_option maxRecDepth 20000 in
theorem we_X0_letGo {post : Option dp_V → dp_H → Prop} {h0 : dp_H} (s : dp_Z) (o : dp_Z) (h : j_X0_letGo s = some o) (hk : post none (hX o)) : dp_W 0 mX0_letGo false h0 0 0 post 0 0 (0, [some (.inr (some 12))], [], (hX s)) := by
  unfold j_X0_letGo at h
  refine dp_blk okX0_letGo 2 (S' := (2, [some (.inr (some 12))], [.inl (0 : Int32), .inr (some 12)], (hX s))) rfl ?_
  obtain ⟨s1, hs, h⟩ := dp_bd_inv h
  have hs := Option.some.inj hs
  refine dp_pfe okX0_letGo rfl (by decide) (qhX_12 s) (Nat.le_of_ble_eq_true rfl) ((phX_15 s (0 : Int32)).trans (congrArg hX hs)) ?_
  refine dp_blk okX0_letGo 2 (S' := (7, [some (.inr (some 12))], [.inl (0 : Int32), .inr (some 12)], (hX s1))) rfl ?_
  obtain ⟨s2, hs, h⟩ := dp_bd_inv h
  have hs := Option.some.inj hs
  refine dp_pfe okX0_letGo rfl (by decide) (qhX_12 s1) (Nat.le_of_ble_eq_true rfl) ((phX_14 s1 (0 : Int32)).trans (congrArg hX hs)) ?_
  refine dp_blk okX0_letGo 0 (S' := (10, [some (.inr (some 12))], [], (hX s2))) rfl ?_
  cases h
  exact dp_vret okX0_letGo rfl rfl hk
theorem c_X0_letGo (s : dp_Z) (o : dp_Z) (h : j_X0_letGo s = some o) : dp_C 0 mX0_letGo false [.inr (some 12)] (hX s) 0 0 (dp_R none (hX o)) := dp_C_of okX0_letGo [some (.inr (some 12))] rfl (Nat.le_of_ble_eq_true rfl) (we_X0_letGo s o h ⟨rfl, rfl⟩)
def j_X0_forget (s : dp_Z) : Option dp_Z := (dp_bd (j_X0_letGo s) fun x1 => (dp_bd (some (dp_sf x1 16 (0 : Int32))) fun s2 => (some s2)))
set_option maxHeartbeats 1000000 in
set_option maxRecDepth 20000 in
theorem we_X0_forget {post : Option dp_V → dp_H → Prop} {h0 : dp_H} (s : dp_Z) (o : dp_Z) (h : j_X0_forget s = some o) (hk : post none (hX o)) : dp_W 1 mX0_forget false h0 0 0 post 0 0 (0, [some (.inr (some 12))], [], (hX s)) := by
  unfold j_X0_forget at h
  refine dp_blk okX0_forget 1 (S' := (1, [some (.inr (some 12))], [.inr (some 12)], (hX s))) rfl ?_
  obtain ⟨x1, hc, h⟩ := dp_bd_inv h
  refine dp_cV okX0_forget okX0_letGo (as := []) (r := []) rfl lk_NearLiars_Claims_30 npX0_letGo (c_X0_letGo s x1 hc) rfl rfl rfl rfl (Nat.le_of_ble_eq_true rfl) (Nat.le_of_ble_eq_true rfl) (Nat.le_refl _) (Nat.le_refl _) ?_
  refine dp_blk okX0_forget 2 (S' := (6, [some (.inr (some 12))], [.inl (0 : Int32), .inr (some 12)], (hX x1))) rfl ?_
  obtain ⟨s2, hs, h⟩ := dp_bd_inv h
  have hs := Option.some.inj hs
  refine dp_pfe okX0_forget rfl (by decide) (qhX_12 x1) (Nat.le_of_ble_eq_true rfl) ((phX_16 x1 (0 : Int32)).trans (congrArg hX hs)) ?_
  refine dp_blk okX0_forget 0 (S' := (9, [some (.inr (some 12))], [], (hX s2))) rfl ?_
  cases h
  exact dp_vret okX0_forget rfl rfl hk
theorem c_X0_forget (s : dp_Z) (o : dp_Z) (h : j_X0_forget s = some o) : dp_C 1 mX0_forget false [.inr (some 12)] (hX s) 0 0 (dp_R none (hX o)) := dp_C_of okX0_forget [some (.inr (some 12))] rfl (Nat.le_of_ble_eq_true rfl) (we_X0_forget s o h ⟨rfl, rfl⟩)
def j_X0_canStep (s : dp_Z) (v2 : Int32) : Option Int32 := (if (s.1 15) = (0 : Int32) then (if v2 = (s.1 3) then (some (1 : Int32)) else (some (0 : Int32))) else (if (12 : Int32) ≤ (s.1 15) then (some (0 : Int32)) else (if dp_inb ((s.1 15) - (1 : Int32)) 12 = true then (dp_bd (j_X2_areLinked s ((s.2 7) (((s.1 15) - (1 : Int32))).toNatClampNeg) v2) fun x1 => (if x1 = (0 : Int32) then (some (0 : Int32)) else (dp_bd (j_X5_isIn v2 (s.1 14)) fun x2 => (if x2 = (0 : Int32) then (some (1 : Int32)) else (some (0 : Int32)))))) else none)))
set_option maxHeartbeats 1000000 in
set_option maxRecDepth 20000 in
theorem we_X0_canStep {post : Option dp_V → dp_H → Prop} {h0 : dp_H} (s : dp_Z) (v2 : Int32) (o : Int32) (h : j_X0_canStep s v2 = some o) (hk : post (some (.inl o)) (hX s)) : dp_W 2 mX0_canStep false h0 0 0 post 0 0 (0, [some (.inr (some 12)), some (.inr (some 1)), some (.inl v2)], [], (hX s)) := by
  unfold j_X0_canStep at h
  refine dp_blk okX0_canStep 2 (S' := (4, [some (.inr (some 12)), some (.inr (some 1)), some (.inl v2)], [.inl (s.1 15)], (hX s))) rfl ?_
  refine dp_if0 okX0_canStep rfl (fun (c : ¬ (s.1 15) = (0 : Int32)) => ?_) (fun (c : (s.1 15) = (0 : Int32)) => ?_)
  · have h := dp_ic c h
    refine dp_blk okX0_canStep 3 (S' := (27, [some (.inr (some 12)), some (.inr (some 1)), some (.inl v2)], [.inl (12 : Int32), .inl (s.1 15)], (hX s))) rfl ?_
    refine dp_if okX0_canStep rfl (fun (c : (12 : Int32) ≤ (s.1 15)) => ?_) (fun (c : ¬ (12 : Int32) ≤ (s.1 15)) => ?_)
    · have h := dp_ip c h
      refine dp_blk okX0_canStep 1 (S' := (65, [some (.inr (some 12)), some (.inr (some 1)), some (.inl v2)], [.inl (0 : Int32)], (hX s))) rfl ?_
      cases h
      exact dp_zret okX0_canStep rfl rfl (by decide) hk
    · have h := dp_ic c h
      refine dp_blk okX0_canStep 7 (S' := (41, [some (.inr (some 12)), some (.inr (some 1)), some (.inl v2)], [.inl ((s.1 15) - (1 : Int32)), .inr (some 13), .inr (some 1)], (hX s))) rfl ?_
      obtain ⟨hi, h⟩ := dp_ite h
      refine dp_ial (g := (s.2 7)) okX0_canStep rfl rfl (dp_inb_in hi) ?_
      refine dp_blk okX0_canStep 1 (S' := (43, [some (.inr (some 12)), some (.inr (some 1)), some (.inl v2)], [.inl v2, .inl ((s.2 7) (((s.1 15) - (1 : Int32))).toNatClampNeg), .inr (some 1)], (hX s))) rfl ?_
      obtain ⟨x1, hc, h⟩ := dp_bd_inv h
      refine dp_cV okX0_canStep okX2_areLinked (as := [.inl ((s.2 7) (((s.1 15) - (1 : Int32))).toNatClampNeg), .inl v2]) (r := []) rfl lk_NearLiars_Claims_48 npX2_areLinked (c_X2_areLinked s ((s.2 7) (((s.1 15) - (1 : Int32))).toNatClampNeg) v2 x1 hc) rfl rfl rfl rfl (Nat.le_of_ble_eq_true rfl) (Nat.le_of_ble_eq_true rfl) (Nat.le_refl _) (Nat.le_refl _) ?_
      refine dp_blk okX0_canStep 0 (S' := (46, [some (.inr (some 12)), some (.inr (some 1)), some (.inl v2)], [.inl x1], (hX s))) rfl ?_
      refine dp_if0 okX0_canStep rfl (fun (c : x1 = (0 : Int32)) => ?_) (fun (c : ¬ x1 = (0 : Int32)) => ?_)
      · have h := dp_ip c h
        refine dp_blk okX0_canStep 1 (S' := (65, [some (.inr (some 12)), some (.inr (some 1)), some (.inl v2)], [.inl (0 : Int32)], (hX s))) rfl ?_
        cases h
        exact dp_zret okX0_canStep rfl rfl (by decide) hk
      · have h := dp_ic c h
        refine dp_blk okX0_canStep 3 (S' := (54, [some (.inr (some 12)), some (.inr (some 1)), some (.inl v2)], [.inl (s.1 14), .inl v2], (hX s))) rfl ?_
        obtain ⟨x2, hc, h⟩ := dp_bd_inv h
        refine dp_cSN okX0_canStep okX5_isIn (as := [.inl v2, .inl (s.1 14)]) (r := []) rfl lk_NearLiars_Claims_52 npX5_isIn (c_X5_isIn (hX s) v2 (s.1 14) x2 hc) rfl (Nat.le_of_ble_eq_true rfl) (Nat.le_of_ble_eq_true rfl) (Nat.le_refl _) (Nat.le_refl _) ?_
        refine dp_blk okX0_canStep 0 (S' := (57, [some (.inr (some 12)), some (.inr (some 1)), some (.inl v2)], [.inl x2], (hX s))) rfl ?_
        refine dp_if0 okX0_canStep rfl (fun (c : ¬ x2 = (0 : Int32)) => ?_) (fun (c : x2 = (0 : Int32)) => ?_)
        · have h := dp_ic c h
          refine dp_blk okX0_canStep 1 (S' := (65, [some (.inr (some 12)), some (.inr (some 1)), some (.inl v2)], [.inl (0 : Int32)], (hX s))) rfl ?_
          cases h
          exact dp_zret okX0_canStep rfl rfl (by decide) hk
        · have h := dp_ip c h
          refine dp_blk okX0_canStep 2 (S' := (65, [some (.inr (some 12)), some (.inr (some 1)), some (.inl v2)], [.inl (1 : Int32)], (hX s))) rfl ?_
          cases h
          exact dp_zret okX0_canStep rfl rfl (by decide) hk
  · have h := dp_ip c h
    refine dp_blk okX0_canStep 3 (S' := (12, [some (.inr (some 12)), some (.inr (some 1)), some (.inl v2)], [.inl (s.1 3), .inl v2], (hX s))) rfl ?_
    refine dp_if okX0_canStep rfl (fun (c : ¬ v2 = (s.1 3)) => ?_) (fun (c : v2 = (s.1 3)) => ?_)
    · have h := dp_ic c h
      refine dp_blk okX0_canStep 1 (S' := (20, [some (.inr (some 12)), some (.inr (some 1)), some (.inl v2)], [.inl (0 : Int32)], (hX s))) rfl ?_
      cases h
      exact dp_zret okX0_canStep rfl rfl (by decide) hk
    · have h := dp_ip c h
      refine dp_blk okX0_canStep 2 (S' := (20, [some (.inr (some 12)), some (.inr (some 1)), some (.inl v2)], [.inl (1 : Int32)], (hX s))) rfl ?_
      cases h
      exact dp_zret okX0_canStep rfl rfl (by decide) hk
theorem c_X0_canStep (s : dp_Z) (v2 : Int32) (o : Int32) (h : j_X0_canStep s v2 = some o) : dp_C 2 mX0_canStep false [.inr (some 12), .inr (some 1), .inl v2] (hX s) 0 0 (dp_R (some (.inl o)) (hX s)) := dp_C_of okX0_canStep [some (.inr (some 12)), some (.inr (some 1)), some (.inl v2)] rfl (Nat.le_of_ble_eq_true rfl) (we_X0_canStep s v2 o h ⟨rfl, rfl⟩)
def j_X0_step (s : dp_Z) (v1 : Int32) : Option (Int32 × dp_Z) := (if dp_inb (s.1 15) 12 = true then (dp_bd (some (dp_sr s 7 (upd (s.2 7) ((s.1 15)).toNatClampNeg v1))) fun s1 => (dp_bd (some (dp_sf s1 14 ((s1.1 14) ||| ((1 : Int32) <<< (v1 &&& 31))))) fun s2 => (dp_bd (some (dp_sf s2 15 ((s2.1 15) + (1 : Int32)))) fun s3 => (some ((s3.1 15), s3))))) else none)
set_option maxHeartbeats 1000000 in
set_option maxRecDepth 20000 in
theorem we_X0_step {post : Option dp_V → dp_H → Prop} {h0 : dp_H} (s : dp_Z) (v1 : Int32) (o : (Int32 × dp_Z)) (h : j_X0_step s v1 = some o) (hk : post (some (.inl o.1)) (hX o.2)) : dp_W 0 mX0_step false h0 0 0 post 0 0 (0, [some (.inr (some 12)), some (.inl v1)], [], (hX s)) := by
  unfold j_X0_step at h
  refine dp_blk okX0_step 5 (S' := (9, [some (.inr (some 12)), some (.inl v1)], [.inl v1, .inl (s.1 15), .inr (some 13)], (hX s))) rfl ?_
  obtain ⟨hi, h⟩ := dp_ite h
  obtain ⟨s1, hs, h⟩ := dp_bd_inv h
  have hs := Option.some.inj hs
  refine dp_iase (g := (s.2 7)) okX0_step rfl rfl (dp_inb_in hi) ((ahX_7 s _).trans (congrArg hX hs)) ?_
  refine dp_blk okX0_step 7 (S' := (19, [some (.inr (some 12)), some (.inl v1)], [.inl ((s1.1 14) ||| ((1 : Int32) <<< (v1 &&& 31))), .inr (some 12)], (hX s1))) rfl ?_
  obtain ⟨s2, hs, h⟩ := dp_bd_inv h
  have hs := Option.some.inj hs
  refine dp_pfe okX0_step rfl (by decide) (qhX_12 s1) (Nat.le_of_ble_eq_true rfl) ((phX_14 s1 ((s1.1 14) ||| ((1 : Int32) <<< (v1 &&& 31)))).trans (congrArg hX hs)) ?_
  refine dp_blk okX0_step 5 (S' := (29, [some (.inr (some 12)), some (.inl v1)], [.inl ((s2.1 15) + (1 : Int32)), .inr (some 12)], (hX s2))) rfl ?_
  obtain ⟨s3, hs, h⟩ := dp_bd_inv h
  have hs := Option.some.inj hs
  refine dp_pfe okX0_step rfl (by decide) (qhX_12 s2) (Nat.le_of_ble_eq_true rfl) ((phX_15 s2 ((s2.1 15) + (1 : Int32))).trans (congrArg hX hs)) ?_
  refine dp_blk okX0_step 2 (S' := (36, [some (.inr (some 12)), some (.inl v1)], [.inl (s3.1 15)], (hX s3))) rfl ?_
  cases h
  exact dp_iret okX0_step rfl rfl hk
theorem c_X0_step (s : dp_Z) (v1 : Int32) (o : (Int32 × dp_Z)) (h : j_X0_step s v1 = some o) : dp_C 0 mX0_step false [.inr (some 12), .inl v1] (hX s) 0 0 (dp_R (some (.inl o.1)) (hX o.2)) := dp_C_of okX0_step [some (.inr (some 12)), some (.inl v1)] rfl (Nat.le_of_ble_eq_true rfl) (we_X0_step s v1 o h ⟨rfl, rfl⟩)
def jj_X0_isTold_30 (s : dp_Z) (v1 v2 : Int32) : Option (Int32 ⊕ (Int32 ⊕ Unit)) := (some (.inl (v2 + (1 : Int32))))
set_option maxHeartbeats 1000000 in
set_option maxRecDepth 20000 in
theorem wj_X0_isTold_30 {post : Option dp_V → dp_H → Prop} {h0 : dp_H} (s : dp_Z) (v1 v2 : Int32) (o : (Int32 ⊕ (Int32 ⊕ Unit))) (h : jj_X0_isTold_30 s v1 v2 = some o) (hk : dp_LK (fun x : Int32 => dp_W 1 mX0_isTold false h0 0 0 post 0 0 (2, [some (.inr (some 12)), some (.inl v1), some (.inl x)], [], (hX s))) (dp_LK (fun o : Int32 => post (some (.inl o)) (hX s)) (fun x : Unit => dp_W 1 mX0_isTold false h0 0 0 post 0 0 (36, [none, none, none], [], (hX s)))) o) : dp_W 1 mX0_isTold false h0 0 0 post 0 0 (30, [some (.inr (some 12)), some (.inl v1), some (.inl v2)], [], (hX s)) := by
  unfold jj_X0_isTold_30 at h
  refine dp_blk okX0_isTold 2 (S' := (2, [some (.inr (some 12)), some (.inl v1), some (.inl (v2 + (1 : Int32)))], [], (hX s))) rfl ?_
  cases h
  exact hk
def jb_X0_isInHand_17 (s : dp_Z) (v1 : Int32) (x : Int32) : Option (Int32 ⊕ (Int32 ⊕ Unit)) := (if (s.1 15) ≤ x then (some (.inr (.inr ()))) else (if dp_inb ((v1 * (12 : Int32)) + x) 96 = true then (if dp_inb x 12 = true then (if ((s.2 8) (((v1 * (12 : Int32)) + x)).toNatClampNeg) = ((s.2 7) (x).toNatClampNeg) then (some (.inl (x + (1 : Int32)))) else (some (.inr (.inl (0 : Int32))))) else none) else none))
set_option maxHeartbeats 1000000 in
set_option maxRecDepth 20000 in
theorem wl_X0_isInHand_17 {post : Option dp_V → dp_H → Prop} {h0 : dp_H} (s : dp_Z) (v1 : Int32) (x : Int32) (o : (Int32 ⊕ (Int32 ⊕ Unit))) (h : jb_X0_isInHand_17 s v1 x = some o) (hk : dp_LK (fun x : Int32 => dp_W 0 mX0_isInHand false h0 0 0 post 0 0 (17, [some (.inr (some 12)), some (.inl v1), some (.inl x)], [], (hX s))) (dp_LK (fun o : Int32 => post (some (.inl o)) (hX s)) (fun x : Unit => dp_W 0 mX0_isInHand false h0 0 0 post 0 0 (53, [none, none, none], [], (hX s)))) o) : dp_W 0 mX0_isInHand false h0 0 0 post 0 0 (17, [some (.inr (some 12)), some (.inl v1), some (.inl x)], [], (hX s)) := by
  unfold jb_X0_isInHand_17 at h
  refine dp_blk okX0_isInHand 3 (S' := (22, [some (.inr (some 12)), some (.inl v1), some (.inl x)], [.inl (s.1 15), .inl x], (hX s))) rfl ?_
  refine dp_if okX0_isInHand rfl (fun (c : (s.1 15) ≤ x) => ?_) (fun (c : ¬ (s.1 15) ≤ x) => ?_)
  · have h := dp_ip c h
    refine dp_blk okX0_isInHand 0 (S' := (53, [some (.inr (some 12)), some (.inl v1), some (.inl x)], [], (hX s))) rfl ?_
    cases h
    refine dp_fg [false, false, false] (L' := [none, none, none]) rfl rfl ?_
    exact hk
  · have h := dp_ic c h
    refine dp_blk okX0_isInHand 7 (S' := (35, [some (.inr (some 12)), some (.inl v1), some (.inl x)], [.inl ((v1 * (12 : Int32)) + x), .inr (some 14)], (hX s))) rfl ?_
    obtain ⟨hi, h⟩ := dp_ite h
    refine dp_ial (g := (s.2 8)) okX0_isInHand rfl rfl (dp_inb_in hi) ?_
    refine dp_blk okX0_isInHand 3 (S' := (41, [some (.inr (some 12)), some (.inl v1), some (.inl x)], [.inl x, .inr (some 13), .inl ((s.2 8) (((v1 * (12 : Int32)) + x)).toNatClampNeg)], (hX s))) rfl ?_
    obtain ⟨hi, h⟩ := dp_ite h
    refine dp_ial (g := (s.2 7)) okX0_isInHand rfl rfl (dp_inb_in hi) ?_
    refine dp_blk okX0_isInHand 0 (S' := (42, [some (.inr (some 12)), some (.inl v1), some (.inl x)], [.inl ((s.2 7) (x).toNatClampNeg), .inl ((s.2 8) (((v1 * (12 : Int32)) + x)).toNatClampNeg)], (hX s))) rfl ?_
    refine dp_if okX0_isInHand rfl (fun (c : ((s.2 8) (((v1 * (12 : Int32)) + x)).toNatClampNeg) = ((s.2 7) (x).toNatClampNeg)) => ?_) (fun (c : ¬ ((s.2 8) (((v1 * (12 : Int32)) + x)).toNatClampNeg) = ((s.2 7) (x).toNatClampNeg)) => ?_)
    · have h := dp_ip c h
      refine dp_blk okX0_isInHand 2 (S' := (17, [some (.inr (some 12)), some (.inl v1), some (.inl (x + (1 : Int32)))], [], (hX s))) rfl ?_
      cases h
      exact hk
    · have h := dp_ic c h
      refine dp_blk okX0_isInHand 1 (S' := (46, [some (.inr (some 12)), some (.inl v1), some (.inl x)], [.inl (0 : Int32)], (hX s))) rfl ?_
      cases h
      exact dp_zret okX0_isInHand rfl rfl (by decide) hk
def j_X0_isInHand (s : dp_Z) (v1 : Int32) : Option Int32 := (if dp_inb v1 8 = true then (if ((s.2 9) (v1).toNatClampNeg) = (s.1 15) then (dp_bd (dp_loop (jb_X0_isInHand_17 s v1) dp_F (0 : Int32)) fun x => Sum.elim (fun x1 => (some x1)) (fun x1 => (some (1 : Int32))) x) else (some (0 : Int32))) else none)
set_option maxHeartbeats 1000000 in
set_option maxRecDepth 20000 in
theorem we_X0_isInHand {post : Option dp_V → dp_H → Prop} {h0 : dp_H} (s : dp_Z) (v1 : Int32) (o : Int32) (h : j_X0_isInHand s v1 = some o) (hk : post (some (.inl o)) (hX s)) : dp_W 0 mX0_isInHand false h0 0 0 post 0 0 (0, [some (.inr (some 12)), some (.inl v1), none], [], (hX s)) := by
  unfold j_X0_isInHand at h
  refine dp_blk okX0_isInHand 3 (S' := (5, [some (.inr (some 12)), some (.inl v1), none], [.inl v1, .inr (some 15)], (hX s))) rfl ?_
  obtain ⟨hi, h⟩ := dp_ite h
  refine dp_ial (g := (s.2 9)) okX0_isInHand rfl rfl (dp_inb_in hi) ?_
  refine dp_blk okX0_isInHand 2 (S' := (10, [some (.inr (some 12)), some (.inl v1), none], [.inl (s.1 15), .inl ((s.2 9) (v1).toNatClampNeg)], (hX s))) rfl ?_
  refine dp_if okX0_isInHand rfl (fun (c : ((s.2 9) (v1).toNatClampNeg) = (s.1 15)) => ?_) (fun (c : ¬ ((s.2 9) (v1).toNatClampNeg) = (s.1 15)) => ?_)
  · have h := dp_ip c h
    refine dp_blk okX0_isInHand 2 (S' := (17, [some (.inr (some 12)), some (.inl v1), some (.inl (0 : Int32))], [], (hX s))) rfl ?_
    obtain ⟨x1, hl, h⟩ := dp_bd_inv h
    refine dp_loopW (wl_X0_isInHand_17 s v1) dp_F (0 : Int32) x1 hl ?_
    rcases x1 with x1 | x1
    · simp only [Sum.elim_inl] at h
      cases h
      exact hk
    · simp only [Sum.elim_inr] at h
      show dp_W 0 mX0_isInHand false h0 0 0 post 0 0 (53, [none, none, none], [], (hX s))
      refine dp_blk okX0_isInHand 1 (S' := (54, [none, none, none], [.inl (1 : Int32)], (hX s))) rfl ?_
      cases h
      exact dp_zret okX0_isInHand rfl rfl (by decide) hk
  · have h := dp_ic c h
    refine dp_blk okX0_isInHand 1 (S' := (14, [some (.inr (some 12)), some (.inl v1), none], [.inl (0 : Int32)], (hX s))) rfl ?_
    cases h
    exact dp_zret okX0_isInHand rfl rfl (by decide) hk
theorem c_X0_isInHand (s : dp_Z) (v1 : Int32) (o : Int32) (h : j_X0_isInHand s v1 = some o) : dp_C 0 mX0_isInHand false [.inr (some 12), .inl v1] (hX s) 0 0 (dp_R (some (.inl o)) (hX s)) := dp_C_of okX0_isInHand [some (.inr (some 12)), some (.inl v1), none] rfl (Nat.le_of_ble_eq_true rfl) (we_X0_isInHand s v1 o h ⟨rfl, rfl⟩)
def jb_X0_isTold_2 (s : dp_Z) (v1 : Int32) (x : Int32) : Option (Int32 ⊕ (Int32 ⊕ Unit)) := (if (s.1 16) ≤ x then (some (.inr (.inr ()))) else (if dp_inb x 8 = true then (if ((s.2 11) (x).toNatClampNeg) = v1 then (dp_bd (j_X0_isInHand s x) fun x1 => (if x1 = (0 : Int32) then (jj_X0_isTold_30 s v1 x) else (some (.inr (.inl (1 : Int32)))))) else (jj_X0_isTold_30 s v1 x)) else none))
set_option maxHeartbeats 1000000 in
set_option maxRecDepth 20000 in
theorem wl_X0_isTold_2 {post : Option dp_V → dp_H → Prop} {h0 : dp_H} (s : dp_Z) (v1 : Int32) (x : Int32) (o : (Int32 ⊕ (Int32 ⊕ Unit))) (h : jb_X0_isTold_2 s v1 x = some o) (hk : dp_LK (fun x : Int32 => dp_W 1 mX0_isTold false h0 0 0 post 0 0 (2, [some (.inr (some 12)), some (.inl v1), some (.inl x)], [], (hX s))) (dp_LK (fun o : Int32 => post (some (.inl o)) (hX s)) (fun x : Unit => dp_W 1 mX0_isTold false h0 0 0 post 0 0 (36, [none, none, none], [], (hX s)))) o) : dp_W 1 mX0_isTold false h0 0 0 post 0 0 (2, [some (.inr (some 12)), some (.inl v1), some (.inl x)], [], (hX s)) := by
  unfold jb_X0_isTold_2 at h
  refine dp_blk okX0_isTold 3 (S' := (7, [some (.inr (some 12)), some (.inl v1), some (.inl x)], [.inl (s.1 16), .inl x], (hX s))) rfl ?_
  refine dp_if okX0_isTold rfl (fun (c : (s.1 16) ≤ x) => ?_) (fun (c : ¬ (s.1 16) ≤ x) => ?_)
  · have h := dp_ip c h
    refine dp_blk okX0_isTold 0 (S' := (36, [some (.inr (some 12)), some (.inl v1), some (.inl x)], [], (hX s))) rfl ?_
    cases h
    refine dp_fg [false, false, false] (L' := [none, none, none]) rfl rfl ?_
    exact hk
  · have h := dp_ic c h
    refine dp_blk okX0_isTold 3 (S' := (15, [some (.inr (some 12)), some (.inl v1), some (.inl x)], [.inl x, .inr (some 17)], (hX s))) rfl ?_
    obtain ⟨hi, h⟩ := dp_ite h
    refine dp_ial (g := (s.2 11)) okX0_isTold rfl rfl (dp_inb_in hi) ?_
    refine dp_blk okX0_isTold 1 (S' := (17, [some (.inr (some 12)), some (.inl v1), some (.inl x)], [.inl v1, .inl ((s.2 11) (x).toNatClampNeg)], (hX s))) rfl ?_
    refine dp_if okX0_isTold rfl (fun (c : ¬ ((s.2 11) (x).toNatClampNeg) = v1) => ?_) (fun (c : ((s.2 11) (x).toNatClampNeg) = v1) => ?_)
    · have h := dp_ic c h
      refine dp_blk okX0_isTold 0 (S' := (30, [some (.inr (some 12)), some (.inl v1), some (.inl x)], [], (hX s))) rfl ?_
      exact wj_X0_isTold_30 s v1 x _ h hk
    · have h := dp_ip c h
      refine dp_blk okX0_isTold 2 (S' := (22, [some (.inr (some 12)), some (.inl v1), some (.inl x)], [.inl x, .inr (some 12)], (hX s))) rfl ?_
      obtain ⟨x1, hc, h⟩ := dp_bd_inv h
      refine dp_cV okX0_isTold okX0_isInHand (as := [.inl x]) (r := []) rfl lk_NearLiars_Claims_55 npX0_isInHand (c_X0_isInHand s x x1 hc) rfl rfl rfl rfl (Nat.le_of_ble_eq_true rfl) (Nat.le_of_ble_eq_true rfl) (Nat.le_refl _) (Nat.le_refl _) ?_
      refine dp_blk okX0_isTold 0 (S' := (25, [some (.inr (some 12)), some (.inl v1), some (.inl x)], [.inl x1], (hX s))) rfl ?_
      refine dp_if0 okX0_isTold rfl (fun (c : x1 = (0 : Int32)) => ?_) (fun (c : ¬ x1 = (0 : Int32)) => ?_)
      · have h := dp_ip c h
        refine dp_blk okX0_isTold 0 (S' := (30, [some (.inr (some 12)), some (.inl v1), some (.inl x)], [], (hX s))) rfl ?_
        exact wj_X0_isTold_30 s v1 x _ h hk
      · have h := dp_ic c h
        refine dp_blk okX0_isTold 1 (S' := (29, [some (.inr (some 12)), some (.inl v1), some (.inl x)], [.inl (1 : Int32)], (hX s))) rfl ?_
        cases h
        exact dp_zret okX0_isTold rfl rfl (by decide) hk
def j_X0_isTold (s : dp_Z) (v1 : Int32) : Option Int32 := (dp_bd (dp_loop (jb_X0_isTold_2 s v1) dp_F (0 : Int32)) fun x => Sum.elim (fun x2 => (some x2)) (fun x2 => (some (0 : Int32))) x)
set_option maxHeartbeats 1000000 in
set_option maxRecDepth 20000 in
theorem we_X0_isTold {post : Option dp_V → dp_H → Prop} {h0 : dp_H} (s : dp_Z) (v1 : Int32) (o : Int32) (h : j_X0_isTold s v1 = some o) (hk : post (some (.inl o)) (hX s)) : dp_W 1 mX0_isTold false h0 0 0 post 0 0 (0, [some (.inr (some 12)), some (.inl v1), none], [], (hX s)) := by
  unfold j_X0_isTold at h
  refine dp_blk okX0_isTold 2 (S' := (2, [some (.inr (some 12)), some (.inl v1), some (.inl (0 : Int32))], [], (hX s))) rfl ?_
  obtain ⟨x2, hl, h⟩ := dp_bd_inv h
  refine dp_loopW (wl_X0_isTold_2 s v1) dp_F (0 : Int32) x2 hl ?_
  rcases x2 with x2 | x2
  · simp only [Sum.elim_inl] at h
    cases h
    exact hk
  · simp only [Sum.elim_inr] at h
    show dp_W 1 mX0_isTold false h0 0 0 post 0 0 (36, [none, none, none], [], (hX s))
    refine dp_blk okX0_isTold 1 (S' := (37, [none, none, none], [.inl (0 : Int32)], (hX s))) rfl ?_
    cases h
    exact dp_zret okX0_isTold rfl rfl (by decide) hk
theorem c_X0_isTold (s : dp_Z) (v1 : Int32) (o : Int32) (h : j_X0_isTold s v1 = some o) : dp_C 1 mX0_isTold false [.inr (some 12), .inl v1] (hX s) 0 0 (dp_R (some (.inl o)) (hX s)) := dp_C_of okX0_isTold [some (.inr (some 12)), some (.inl v1), none] rfl (Nat.le_of_ble_eq_true rfl) (we_X0_isTold s v1 o h ⟨rfl, rfl⟩)
def jj_X0_keep_13 (s : dp_Z) (v1 : Int32) : Option (Int32 × dp_Z) := (if dp_cpk (0 : Int32) ((s.1 16) * (12 : Int32)) (12 : Int32) 12 96 = true then (dp_bd (some (dp_sr s 8 (va_cpy (s.2 7) (s.2 8) ((0 : Int32)).toNatClampNeg (((s.1 16) * (12 : Int32))).toNatClampNeg ((12 : Int32)).toNatClampNeg))) fun s1 => (if dp_inb (s1.1 16) 8 = true then (dp_bd (some (dp_sr s1 9 (upd (s1.2 9) ((s1.1 16)).toNatClampNeg (s1.1 15)))) fun s2 => (if dp_inb (s2.1 16) 8 = true then (dp_bd (some (dp_sr s2 10 (upd (s2.2 10) ((s2.1 16)).toNatClampNeg (s2.1 14)))) fun s3 => (if dp_inb (s3.1 16) 8 = true then (dp_bd (some (dp_sr s3 11 (upd (s3.2 11) ((s3.1 16)).toNatClampNeg v1))) fun s4 => (dp_bd (some (dp_sf s4 16 ((s4.1 16) + (1 : Int32)))) fun s5 => (dp_bd (j_X0_letGo s5) fun x6 => (some ((x6.1 16), x6))))) else none)) else none)) else none)) else none)
set_option maxHeartbeats 1000000 in
set_option maxRecDepth 20000 in
theorem wj_X0_keep_13 {post : Option dp_V → dp_H → Prop} {h0 : dp_H} (s : dp_Z) (v1 : Int32) (o : (Int32 × dp_Z)) (h : jj_X0_keep_13 s v1 = some o) (hk : post (some (.inl o.1)) (hX o.2)) : dp_W 2 mX0_keep false h0 0 0 post 0 0 (13, [some (.inr (some 12)), some (.inl v1)], [], (hX s)) := by
  unfold jj_X0_keep_13 at h
  refine dp_blk okX0_keep 10 (S' := (31, [some (.inr (some 12)), some (.inl v1)], [.inl (12 : Int32), .inl ((s.1 16) * (12 : Int32)), .inr (some 14), .inl (0 : Int32), .inr (some 13)], (hX s))) rfl ?_
  obtain ⟨hi, h⟩ := dp_ite h
  obtain ⟨s1, hs, h⟩ := dp_bd_inv h
  have hs := Option.some.inj hs
  refine dp_acopye (g0 := (s.2 7)) (g1 := (s.2 8)) okX0_keep rfl dq_514 dq_475 dq_474 dq_49 rfl rfl (of_decide_eq_true hi) (Nat.le_of_ble_eq_true rfl) (Nat.le_of_ble_eq_true rfl) ((ahX_8 s _).trans (congrArg hX hs)) ?_
  refine dp_blk okX0_keep 6 (S' := (46, [some (.inr (some 12)), some (.inl v1)], [.inl (s1.1 15), .inl (s1.1 16), .inr (some 15)], (hX s1))) rfl ?_
  obtain ⟨hi, h⟩ := dp_ite h
  obtain ⟨s2, hs, h⟩ := dp_bd_inv h
  have hs := Option.some.inj hs
  refine dp_iase (g := (s1.2 9)) okX0_keep rfl rfl (dp_inb_in hi) ((ahX_9 s1 _).trans (congrArg hX hs)) ?_
  refine dp_blk okX0_keep 6 (S' := (59, [some (.inr (some 12)), some (.inl v1)], [.inl (s2.1 14), .inl (s2.1 16), .inr (some 16)], (hX s2))) rfl ?_
  obtain ⟨hi, h⟩ := dp_ite h
  obtain ⟨s3, hs, h⟩ := dp_bd_inv h
  have hs := Option.some.inj hs
  refine dp_iase (g := (s2.2 10)) okX0_keep rfl rfl (dp_inb_in hi) ((ahX_10 s2 _).trans (congrArg hX hs)) ?_
  refine dp_blk okX0_keep 5 (S' := (69, [some (.inr (some 12)), some (.inl v1)], [.inl v1, .inl (s3.1 16), .inr (some 17)], (hX s3))) rfl ?_
  obtain ⟨hi, h⟩ := dp_ite h
  obtain ⟨s4, hs, h⟩ := dp_bd_inv h
  have hs := Option.some.inj hs
  refine dp_iase (g := (s3.2 11)) okX0_keep rfl rfl (dp_inb_in hi) ((ahX_11 s3 _).trans (congrArg hX hs)) ?_
  refine dp_blk okX0_keep 5 (S' := (77, [some (.inr (some 12)), some (.inl v1)], [.inl ((s4.1 16) + (1 : Int32)), .inr (some 12)], (hX s4))) rfl ?_
  obtain ⟨s5, hs, h⟩ := dp_bd_inv h
  have hs := Option.some.inj hs
  refine dp_pfe okX0_keep rfl (by decide) (qhX_12 s4) (Nat.le_of_ble_eq_true rfl) ((phX_16 s4 ((s4.1 16) + (1 : Int32))).trans (congrArg hX hs)) ?_
  refine dp_blk okX0_keep 1 (S' := (81, [some (.inr (some 12)), some (.inl v1)], [.inr (some 12)], (hX s5))) rfl ?_
  obtain ⟨x6, hc, h⟩ := dp_bd_inv h
  refine dp_cV okX0_keep okX0_letGo (as := []) (r := []) rfl lk_NearLiars_Claims_30 npX0_letGo (c_X0_letGo s5 x6 hc) rfl rfl rfl rfl (Nat.le_of_ble_eq_true rfl) (Nat.le_of_ble_eq_true rfl) (Nat.le_refl _) (Nat.le_refl _) ?_
  refine dp_blk okX0_keep 2 (S' := (88, [some (.inr (some 12)), some (.inl v1)], [.inl (x6.1 16)], (hX x6))) rfl ?_
  cases h
  exact dp_iret okX0_keep rfl rfl hk
def j_X0_forgetOldest (s : dp_Z) : Option dp_Z := (dp_bd (some (dp_sf s 16 (7 : Int32))) fun s1 => (if dp_cpk (12 : Int32) (0 : Int32) ((s1.1 16) * (12 : Int32)) 96 96 = true then (dp_bd (some (dp_sr s1 8 (va_cpy (s1.2 8) (s1.2 8) ((12 : Int32)).toNatClampNeg ((0 : Int32)).toNatClampNeg (((s1.1 16) * (12 : Int32))).toNatClampNeg))) fun s2 => (if dp_cpk (1 : Int32) (0 : Int32) (s2.1 16) 8 8 = true then (dp_bd (some (dp_sr s2 9 (va_cpy (s2.2 9) (s2.2 9) ((1 : Int32)).toNatClampNeg ((0 : Int32)).toNatClampNeg ((s2.1 16)).toNatClampNeg))) fun s3 => (if dp_cpk (1 : Int32) (0 : Int32) (s3.1 16) 8 8 = true then (dp_bd (some (dp_sr s3 10 (va_cpy (s3.2 10) (s3.2 10) ((1 : Int32)).toNatClampNeg ((0 : Int32)).toNatClampNeg ((s3.1 16)).toNatClampNeg))) fun s4 => (if dp_cpk (1 : Int32) (0 : Int32) (s4.1 16) 8 8 = true then (dp_bd (some (dp_sr s4 11 (va_cpy (s4.2 11) (s4.2 11) ((1 : Int32)).toNatClampNeg ((0 : Int32)).toNatClampNeg ((s4.1 16)).toNatClampNeg))) fun s5 => (some s5)) else none)) else none)) else none)) else none))
set_option maxHeartbeats 1000000 in
set_option maxRecDepth 20000 in
theorem we_X0_forgetOldest {post : Option dp_V → dp_H → Prop} {h0 : dp_H} (s : dp_Z) (o : dp_Z) (h : j_X0_forgetOldest s = some o) (hk : post none (hX o)) : dp_W 1 mX0_forgetOldest false h0 0 0 post 0 0 (0, [some (.inr (some 12))], [], (hX s)) := by
  unfold j_X0_forgetOldest at h
  refine dp_blk okX0_forgetOldest 2 (S' := (3, [some (.inr (some 12))], [.inl (7 : Int32), .inr (some 12)], (hX s))) rfl ?_
  obtain ⟨s1, hs, h⟩ := dp_bd_inv h
  have hs := Option.some.inj hs
  refine dp_pfe okX0_forgetOldest rfl (by decide) (qhX_12 s) (Nat.le_of_ble_eq_true rfl) ((phX_16 s (7 : Int32)).trans (congrArg hX hs)) ?_
  refine dp_blk okX0_forgetOldest 10 (S' := (24, [some (.inr (some 12))], [.inl ((s1.1 16) * (12 : Int32)), .inl (0 : Int32), .inr (some 14), .inl (12 : Int32), .inr (some 14)], (hX s1))) rfl ?_
  obtain ⟨hi, h⟩ := dp_ite h
  obtain ⟨s2, hs, h⟩ := dp_bd_inv h
  have hs := Option.some.inj hs
  refine dp_acopye (g0 := (s1.2 8)) (g1 := (s1.2 8)) okX0_forgetOldest rfl dq_514 dq_475 dq_474 dq_49 rfl rfl (of_decide_eq_true hi) (Nat.le_of_ble_eq_true rfl) (Nat.le_of_ble_eq_true rfl) ((ahX_8 s1 _).trans (congrArg hX hs)) ?_
  refine dp_blk okX0_forgetOldest 8 (S' := (41, [some (.inr (some 12))], [.inl (s2.1 16), .inl (0 : Int32), .inr (some 15), .inl (1 : Int32), .inr (some 15)], (hX s2))) rfl ?_
  obtain ⟨hi, h⟩ := dp_ite h
  obtain ⟨s3, hs, h⟩ := dp_bd_inv h
  have hs := Option.some.inj hs
  refine dp_acopye (g0 := (s2.2 9)) (g1 := (s2.2 9)) okX0_forgetOldest rfl dq_514 dq_475 dq_474 dq_49 rfl rfl (of_decide_eq_true hi) (Nat.le_of_ble_eq_true rfl) (Nat.le_of_ble_eq_true rfl) ((ahX_9 s2 _).trans (congrArg hX hs)) ?_
  refine dp_blk okX0_forgetOldest 8 (S' := (58, [some (.inr (some 12))], [.inl (s3.1 16), .inl (0 : Int32), .inr (some 16), .inl (1 : Int32), .inr (some 16)], (hX s3))) rfl ?_
  obtain ⟨hi, h⟩ := dp_ite h
  obtain ⟨s4, hs, h⟩ := dp_bd_inv h
  have hs := Option.some.inj hs
  refine dp_acopye (g0 := (s3.2 10)) (g1 := (s3.2 10)) okX0_forgetOldest rfl dq_514 dq_475 dq_474 dq_49 rfl rfl (of_decide_eq_true hi) (Nat.le_of_ble_eq_true rfl) (Nat.le_of_ble_eq_true rfl) ((ahX_10 s3 _).trans (congrArg hX hs)) ?_
  refine dp_blk okX0_forgetOldest 8 (S' := (75, [some (.inr (some 12))], [.inl (s4.1 16), .inl (0 : Int32), .inr (some 17), .inl (1 : Int32), .inr (some 17)], (hX s4))) rfl ?_
  obtain ⟨hi, h⟩ := dp_ite h
  obtain ⟨s5, hs, h⟩ := dp_bd_inv h
  have hs := Option.some.inj hs
  refine dp_acopye (g0 := (s4.2 11)) (g1 := (s4.2 11)) okX0_forgetOldest rfl dq_514 dq_475 dq_474 dq_49 rfl rfl (of_decide_eq_true hi) (Nat.le_of_ble_eq_true rfl) (Nat.le_of_ble_eq_true rfl) ((ahX_11 s4 _).trans (congrArg hX hs)) ?_
  refine dp_blk okX0_forgetOldest 0 (S' := (78, [some (.inr (some 12))], [], (hX s5))) rfl ?_
  cases h
  exact dp_vret okX0_forgetOldest rfl rfl hk
theorem c_X0_forgetOldest (s : dp_Z) (o : dp_Z) (h : j_X0_forgetOldest s = some o) : dp_C 1 mX0_forgetOldest false [.inr (some 12)] (hX s) 0 0 (dp_R none (hX o)) := dp_C_of okX0_forgetOldest [some (.inr (some 12))] rfl (Nat.le_of_ble_eq_true rfl) (we_X0_forgetOldest s o h ⟨rfl, rfl⟩)
def j_X0_keep (s : dp_Z) (v1 : Int32) : Option (Int32 × dp_Z) := (if (s.1 16) < (8 : Int32) then (jj_X0_keep_13 s v1) else (dp_bd (j_X0_forgetOldest s) fun x7 => (jj_X0_keep_13 x7 v1)))
set_option maxHeartbeats 1000000 in
set_option maxRecDepth 20000 in
theorem we_X0_keep {post : Option dp_V → dp_H → Prop} {h0 : dp_H} (s : dp_Z) (v1 : Int32) (o : (Int32 × dp_Z)) (h : j_X0_keep s v1 = some o) (hk : post (some (.inl o.1)) (hX o.2)) : dp_W 2 mX0_keep false h0 0 0 post 0 0 (0, [some (.inr (some 12)), some (.inl v1)], [], (hX s)) := by
  unfold j_X0_keep at h
  refine dp_blk okX0_keep 3 (S' := (6, [some (.inr (some 12)), some (.inl v1)], [.inl (8 : Int32), .inl (s.1 16)], (hX s))) rfl ?_
  refine dp_if okX0_keep rfl (fun (c : (s.1 16) < (8 : Int32)) => ?_) (fun (c : ¬ (s.1 16) < (8 : Int32)) => ?_)
  · have h := dp_ip c h
    refine dp_blk okX0_keep 0 (S' := (13, [some (.inr (some 12)), some (.inl v1)], [], (hX s))) rfl ?_
    exact wj_X0_keep_13 s v1 _ h hk
  · have h := dp_ic c h
    refine dp_blk okX0_keep 1 (S' := (10, [some (.inr (some 12)), some (.inl v1)], [.inr (some 12)], (hX s))) rfl ?_
    obtain ⟨x7, hc, h⟩ := dp_bd_inv h
    refine dp_cV okX0_keep okX0_forgetOldest (as := []) (r := []) rfl lk_NearLiars_Claims_59 npX0_forgetOldest (c_X0_forgetOldest s x7 hc) rfl rfl rfl rfl (Nat.le_of_ble_eq_true rfl) (Nat.le_of_ble_eq_true rfl) (Nat.le_refl _) (Nat.le_refl _) ?_
    refine dp_blk okX0_keep 0 (S' := (13, [some (.inr (some 12)), some (.inl v1)], [], (hX x7))) rfl ?_
    exact wj_X0_keep_13 x7 v1 _ h hk
theorem c_X0_keep (s : dp_Z) (v1 : Int32) (o : (Int32 × dp_Z)) (h : j_X0_keep s v1 = some o) : dp_C 2 mX0_keep false [.inr (some 12), .inl v1] (hX s) 0 0 (dp_R (some (.inl o.1)) (hX o.2)) := dp_C_of okX0_keep [some (.inr (some 12)), some (.inl v1)] rfl (Nat.le_of_ble_eq_true rfl) (we_X0_keep s v1 o h ⟨rfl, rfl⟩)
def j_X0_placeOf (s : dp_Z) (v1 v2 : Int32) : Option Int32 := (if v2 < (0 : Int32) then (some (-9 : Int32)) else (if dp_inb v1 8 = true then (if ((s.2 9) (v1).toNatClampNeg) ≤ v2 then (some (-9 : Int32)) else (if dp_inb ((v1 * (12 : Int32)) + v2) 96 = true then (some ((s.2 8) (((v1 * (12 : Int32)) + v2)).toNatClampNeg)) else none)) else none))
set_option maxHeartbeats 1000000 in
set_option maxRecDepth 20000 in
theorem we_X0_placeOf {post : Option dp_V → dp_H → Prop} {h0 : dp_H} (s : dp_Z) (v1 v2 : Int32) (o : Int32) (h : j_X0_placeOf s v1 v2 = some o) (hk : post (some (.inl o)) (hX s)) : dp_W 0 mX0_placeOf false h0 0 0 post 0 0 (0, [some (.inr (some 12)), some (.inl v1), some (.inl v2)], [], (hX s)) := by
  unfold j_X0_placeOf at h
  refine dp_blk okX0_placeOf 1 (S' := (1, [some (.inr (some 12)), some (.inl v1), some (.inl v2)], [.inl v2], (hX s))) rfl ?_
  refine dp_if0 okX0_placeOf rfl (fun (c : v2 < (0 : Int32)) => ?_) (fun (c : ¬ v2 < (0 : Int32)) => ?_)
  · have h := dp_ip c h
    refine dp_blk okX0_placeOf 1 (S' := (30, [some (.inr (some 12)), some (.inl v1), some (.inl v2)], [.inl (-9 : Int32)], (hX s))) rfl ?_
    cases h
    exact dp_iret okX0_placeOf rfl rfl hk
  · have h := dp_ic c h
    refine dp_blk okX0_placeOf 4 (S' := (10, [some (.inr (some 12)), some (.inl v1), some (.inl v2)], [.inl v1, .inr (some 15), .inl v2], (hX s))) rfl ?_
    obtain ⟨hi, h⟩ := dp_ite h
    refine dp_ial (g := (s.2 9)) okX0_placeOf rfl rfl (dp_inb_in hi) ?_
    refine dp_blk okX0_placeOf 0 (S' := (11, [some (.inr (some 12)), some (.inl v1), some (.inl v2)], [.inl ((s.2 9) (v1).toNatClampNeg), .inl v2], (hX s))) rfl ?_
    refine dp_if okX0_placeOf rfl (fun (c : ((s.2 9) (v1).toNatClampNeg) ≤ v2) => ?_) (fun (c : ¬ ((s.2 9) (v1).toNatClampNeg) ≤ v2) => ?_)
    · have h := dp_ip c h
      refine dp_blk okX0_placeOf 1 (S' := (30, [some (.inr (some 12)), some (.inl v1), some (.inl v2)], [.inl (-9 : Int32)], (hX s))) rfl ?_
      cases h
      exact dp_iret okX0_placeOf rfl rfl hk
    · have h := dp_ic c h
      refine dp_blk okX0_placeOf 7 (S' := (24, [some (.inr (some 12)), some (.inl v1), some (.inl v2)], [.inl ((v1 * (12 : Int32)) + v2), .inr (some 14)], (hX s))) rfl ?_
      obtain ⟨hi, h⟩ := dp_ite h
      refine dp_ial (g := (s.2 8)) okX0_placeOf rfl rfl (dp_inb_in hi) ?_
      refine dp_blk okX0_placeOf 1 (S' := (30, [some (.inr (some 12)), some (.inl v1), some (.inl v2)], [.inl ((s.2 8) (((v1 * (12 : Int32)) + v2)).toNatClampNeg)], (hX s))) rfl ?_
      cases h
      exact dp_iret okX0_placeOf rfl rfl hk
theorem c_X0_placeOf (s : dp_Z) (v1 v2 : Int32) (o : Int32) (h : j_X0_placeOf s v1 v2 = some o) : dp_C 0 mX0_placeOf false [.inr (some 12), .inl v1, .inl v2] (hX s) 0 0 (dp_R (some (.inl o)) (hX s)) := dp_C_of okX0_placeOf [some (.inr (some 12)), some (.inl v1), some (.inl v2)] rfl (Nat.le_of_ble_eq_true rfl) (we_X0_placeOf s v1 v2 o h ⟨rfl, rfl⟩)
def jj_X0_gatherInner_76 (s : dp_Z) (v1 v2 v3 v4 : Int32) : Option ((dp_Z × Int32 × Int32) ⊕ (dp_Z × Int32)) := (some (.inl (s, v3, (v4 + (1 : Int32)))))
set_option maxHeartbeats 1000000 in
set_option maxRecDepth 20000 in
theorem wj_X0_gatherInner_76 {post : Option dp_V → dp_H → Prop} {h0 : dp_H} (s : dp_Z) (v1 v2 v3 v4 : Int32) (o : ((dp_Z × Int32 × Int32) ⊕ (dp_Z × Int32))) (h : jj_X0_gatherInner_76 s v1 v2 v3 v4 = some o) (hk : dp_LK (fun x : (dp_Z × Int32 × Int32) => dp_W 1 mX0_gatherInner false h0 0 0 post 0 0 (5, [some (.inr (some 12)), some (.inl v1), some (.inl v2), some (.inl x.2.1), some (.inl x.2.2)], [], (hX x.1))) (fun x : (dp_Z × Int32) => dp_W 1 mX0_gatherInner false h0 0 0 post 0 0 (82, [none, none, none, some (.inl x.2), none], [], (hX x.1))) o) : dp_W 1 mX0_gatherInner false h0 0 0 post 0 0 (76, [some (.inr (some 12)), some (.inl v1), some (.inl v2), some (.inl v3), some (.inl v4)], [], (hX s)) := by
  unfold jj_X0_gatherInner_76 at h
  refine dp_blk okX0_gatherInner 2 (S' := (5, [some (.inr (some 12)), some (.inl v1), some (.inl v2), some (.inl v3), some (.inl (v4 + (1 : Int32)))], [], (hX s))) rfl ?_
  cases h
  exact hk
def jb_X0_gatherInner_5 (v1 v2 : Int32) (x : (dp_Z × Int32 × Int32)) : Option ((dp_Z × Int32 × Int32) ⊕ (dp_Z × Int32)) := (if (x.1.1 16) ≤ x.2.2 then (some (.inr (x.1, x.2.1))) else (if dp_inb x.2.2 8 = true then (if ((x.1.2 11) (x.2.2).toNatClampNeg) = v2 then (if dp_inb x.2.2 8 = true then (dp_bd (j_X0_placeOf x.1 x.2.2 (((x.1.2 9) (x.2.2).toNatClampNeg) - (1 : Int32))) fun x1 => (if x1 = v1 then (if dp_inb x.2.2 8 = true then (dp_bd (j_X0_placeOf x.1 x.2.2 (0 : Int32)) fun x2 => (if dp_inb x.2.1 8 = true then (dp_bd (some (dp_sr x.1 12 (upd (x.1.2 12) (x.2.1).toNatClampNeg (((x.1.2 10) (x.2.2).toNatClampNeg) &&& ((((1 : Int32) <<< (v1 &&& 31)) ||| ((1 : Int32) <<< (x2 &&& 31))) ^^^ (-1 : Int32)))))) fun s3 => (jj_X0_gatherInner_76 s3 v1 v2 (x.2.1 + (1 : Int32)) x.2.2)) else none)) else none) else (jj_X0_gatherInner_76 x.1 v1 v2 x.2.1 x.2.2))) else none) else (jj_X0_gatherInner_76 x.1 v1 v2 x.2.1 x.2.2)) else none))
set_option maxHeartbeats 1000000 in
set_option maxRecDepth 20000 in
theorem wl_X0_gatherInner_5 {post : Option dp_V → dp_H → Prop} {h0 : dp_H} (v1 v2 : Int32) (x : (dp_Z × Int32 × Int32)) (o : ((dp_Z × Int32 × Int32) ⊕ (dp_Z × Int32))) (h : jb_X0_gatherInner_5 v1 v2 x = some o) (hk : dp_LK (fun x : (dp_Z × Int32 × Int32) => dp_W 1 mX0_gatherInner false h0 0 0 post 0 0 (5, [some (.inr (some 12)), some (.inl v1), some (.inl v2), some (.inl x.2.1), some (.inl x.2.2)], [], (hX x.1))) (fun x : (dp_Z × Int32) => dp_W 1 mX0_gatherInner false h0 0 0 post 0 0 (82, [none, none, none, some (.inl x.2), none], [], (hX x.1))) o) : dp_W 1 mX0_gatherInner false h0 0 0 post 0 0 (5, [some (.inr (some 12)), some (.inl v1), some (.inl v2), some (.inl x.2.1), some (.inl x.2.2)], [], (hX x.1)) := by
  unfold jb_X0_gatherInner_5 at h
  refine dp_blk okX0_gatherInner 3 (S' := (11, [some (.inr (some 12)), some (.inl v1), some (.inl v2), some (.inl x.2.1), some (.inl x.2.2)], [.inl (x.1.1 16), .inl x.2.2], (hX x.1))) rfl ?_
  refine dp_if okX0_gatherInner rfl (fun (c : (x.1.1 16) ≤ x.2.2) => ?_) (fun (c : ¬ (x.1.1 16) ≤ x.2.2) => ?_)
  · have h := dp_ip c h
    refine dp_blk okX0_gatherInner 0 (S' := (82, [some (.inr (some 12)), some (.inl v1), some (.inl v2), some (.inl x.2.1), some (.inl x.2.2)], [], (hX x.1))) rfl ?_
    cases h
    refine dp_fg [false, false, false, true, false] (L' := [none, none, none, some (.inl x.2.1), none]) rfl rfl ?_
    exact hk
  · have h := dp_ic c h
    refine dp_blk okX0_gatherInner 3 (S' := (20, [some (.inr (some 12)), some (.inl v1), some (.inl v2), some (.inl x.2.1), some (.inl x.2.2)], [.inl x.2.2, .inr (some 17)], (hX x.1))) rfl ?_
    obtain ⟨hi, h⟩ := dp_ite h
    refine dp_ial (g := (x.1.2 11)) okX0_gatherInner rfl rfl (dp_inb_in hi) ?_
    refine dp_blk okX0_gatherInner 1 (S' := (22, [some (.inr (some 12)), some (.inl v1), some (.inl v2), some (.inl x.2.1), some (.inl x.2.2)], [.inl v2, .inl ((x.1.2 11) (x.2.2).toNatClampNeg)], (hX x.1))) rfl ?_
    refine dp_if okX0_gatherInner rfl (fun (c : ¬ ((x.1.2 11) (x.2.2).toNatClampNeg) = v2) => ?_) (fun (c : ((x.1.2 11) (x.2.2).toNatClampNeg) = v2) => ?_)
    · have h := dp_ic c h
      refine dp_blk okX0_gatherInner 0 (S' := (76, [some (.inr (some 12)), some (.inl v1), some (.inl v2), some (.inl x.2.1), some (.inl x.2.2)], [], (hX x.1))) rfl ?_
      exact wj_X0_gatherInner_76 x.1 v1 v2 x.2.1 x.2.2 _ h hk
    · have h := dp_ip c h
      refine dp_blk okX0_gatherInner 5 (S' := (34, [some (.inr (some 12)), some (.inl v1), some (.inl v2), some (.inl x.2.1), some (.inl x.2.2)], [.inl x.2.2, .inr (some 15), .inl x.2.2, .inr (some 12)], (hX x.1))) rfl ?_
      obtain ⟨hi, h⟩ := dp_ite h
      refine dp_ial (g := (x.1.2 9)) okX0_gatherInner rfl rfl (dp_inb_in hi) ?_
      refine dp_blk okX0_gatherInner 2 (S' := (37, [some (.inr (some 12)), some (.inl v1), some (.inl v2), some (.inl x.2.1), some (.inl x.2.2)], [.inl (((x.1.2 9) (x.2.2).toNatClampNeg) - (1 : Int32)), .inl x.2.2, .inr (some 12)], (hX x.1))) rfl ?_
      obtain ⟨x1, hc, h⟩ := dp_bd_inv h
      refine dp_cV okX0_gatherInner okX0_placeOf (as := [.inl x.2.2, .inl (((x.1.2 9) (x.2.2).toNatClampNeg) - (1 : Int32))]) (r := []) rfl lk_NearLiars_Claims_81 npX0_placeOf (c_X0_placeOf x.1 x.2.2 (((x.1.2 9) (x.2.2).toNatClampNeg) - (1 : Int32)) x1 hc) rfl rfl rfl rfl (Nat.le_of_ble_eq_true rfl) (Nat.le_of_ble_eq_true rfl) (Nat.le_refl _) (Nat.le_refl _) ?_
      refine dp_blk okX0_gatherInner 1 (S' := (41, [some (.inr (some 12)), some (.inl v1), some (.inl v2), some (.inl x.2.1), some (.inl x.2.2)], [.inl v1, .inl x1], (hX x.1))) rfl ?_
      refine dp_if okX0_gatherInner rfl (fun (c : ¬ x1 = v1) => ?_) (fun (c : x1 = v1) => ?_)
      · have h := dp_ic c h
        refine dp_blk okX0_gatherInner 0 (S' := (76, [some (.inr (some 12)), some (.inl v1), some (.inl v2), some (.inl x.2.1), some (.inl x.2.2)], [], (hX x.1))) rfl ?_
        exact wj_X0_gatherInner_76 x.1 v1 v2 x.2.1 x.2.2 _ h hk
      · have h := dp_ip c h
        refine dp_blk okX0_gatherInner 6 (S' := (55, [some (.inr (some 12)), some (.inl v1), some (.inl v2), some (.inl x.2.1), some (.inl x.2.2)], [.inl x.2.2, .inr (some 16), .inl x.2.1, .inr (some 18)], (hX x.1))) rfl ?_
        obtain ⟨hi, h⟩ := dp_ite h
        refine dp_ial (g := (x.1.2 10)) okX0_gatherInner rfl rfl (dp_inb_in hi) ?_
        refine dp_blk okX0_gatherInner 7 (S' := (64, [some (.inr (some 12)), some (.inl v1), some (.inl v2), some (.inl x.2.1), some (.inl x.2.2)], [.inl (0 : Int32), .inl x.2.2, .inr (some 12), .inl (1 : Int32), .inl ((1 : Int32) <<< (v1 &&& 31)), .inl ((x.1.2 10) (x.2.2).toNatClampNeg), .inl x.2.1, .inr (some 18)], (hX x.1))) rfl ?_
        obtain ⟨x2, hc, h⟩ := dp_bd_inv h
        refine dp_cV okX0_gatherInner okX0_placeOf (as := [.inl x.2.2, .inl (0 : Int32)]) (r := [.inl (1 : Int32), .inl ((1 : Int32) <<< (v1 &&& 31)), .inl ((x.1.2 10) (x.2.2).toNatClampNeg), .inl x.2.1, .inr (some 18)]) rfl lk_NearLiars_Claims_81 npX0_placeOf (c_X0_placeOf x.1 x.2.2 (0 : Int32) x2 hc) rfl rfl rfl rfl (Nat.le_of_ble_eq_true rfl) (Nat.le_of_ble_eq_true rfl) (Nat.le_refl _) (Nat.le_refl _) ?_
        refine dp_blk okX0_gatherInner 5 (S' := (72, [some (.inr (some 12)), some (.inl v1), some (.inl v2), some (.inl x.2.1), some (.inl x.2.2)], [.inl (((x.1.2 10) (x.2.2).toNatClampNeg) &&& ((((1 : Int32) <<< (v1 &&& 31)) ||| ((1 : Int32) <<< (x2 &&& 31))) ^^^ (-1 : Int32))), .inl x.2.1, .inr (some 18)], (hX x.1))) rfl ?_
        obtain ⟨hi, h⟩ := dp_ite h
        obtain ⟨s3, hs, h⟩ := dp_bd_inv h
        have hs := Option.some.inj hs
        refine dp_iase (g := (x.1.2 12)) okX0_gatherInner rfl rfl (dp_inb_in hi) ((ahX_12 x.1 _).trans (congrArg hX hs)) ?_
        refine dp_blk okX0_gatherInner 1 (S' := (76, [some (.inr (some 12)), some (.inl v1), some (.inl v2), some (.inl (x.2.1 + (1 : Int32))), some (.inl x.2.2)], [], (hX s3))) rfl ?_
        exact wj_X0_gatherInner_76 s3 v1 v2 (x.2.1 + (1 : Int32)) x.2.2 _ h hk
def j_X0_gatherInner (s : dp_Z) (v1 v2 : Int32) : Option (Int32 × dp_Z) := (dp_bd (dp_loop (jb_X0_gatherInner_5 v1 v2) dp_F (s, (0 : Int32), (0 : Int32))) fun x4 => (some (x4.2, x4.1)))
set_option maxHeartbeats 1000000 in
set_option maxRecDepth 20000 in
theorem we_X0_gatherInner {post : Option dp_V → dp_H → Prop} {h0 : dp_H} (s : dp_Z) (v1 v2 : Int32) (o : (Int32 × dp_Z)) (h : j_X0_gatherInner s v1 v2 = some o) (hk : post (some (.inl o.1)) (hX o.2)) : dp_W 1 mX0_gatherInner false h0 0 0 post 0 0 (0, [some (.inr (some 12)), some (.inl v1), some (.inl v2), none, none], [], (hX s)) := by
  unfold j_X0_gatherInner at h
  refine dp_blk okX0_gatherInner 4 (S' := (5, [some (.inr (some 12)), some (.inl v1), some (.inl v2), some (.inl (0 : Int32)), some (.inl (0 : Int32))], [], (hX s))) rfl ?_
  obtain ⟨x4, hl, h⟩ := dp_bd_inv h
  refine dp_loopW (wl_X0_gatherInner_5 v1 v2) dp_F (s, (0 : Int32), (0 : Int32)) x4 hl ?_
  show dp_W 1 mX0_gatherInner false h0 0 0 post 0 0 (82, [none, none, none, some (.inl x4.2), none], [], (hX x4.1))
  refine dp_blk okX0_gatherInner 1 (S' := (83, [none, none, none, some (.inl x4.2), none], [.inl x4.2], (hX x4.1))) rfl ?_
  cases h
  exact dp_iret okX0_gatherInner rfl rfl hk
theorem c_X0_gatherInner (s : dp_Z) (v1 v2 : Int32) (o : (Int32 × dp_Z)) (h : j_X0_gatherInner s v1 v2 = some o) : dp_C 1 mX0_gatherInner false [.inr (some 12), .inl v1, .inl v2] (hX s) 0 0 (dp_R (some (.inl o.1)) (hX o.2)) := dp_C_of okX0_gatherInner [some (.inr (some 12)), some (.inl v1), some (.inl v2), none, none] rfl (Nat.le_of_ble_eq_true rfl) (we_X0_gatherInner s v1 v2 o h ⟨rfl, rfl⟩)
def jj_X0_mostApart_49 (s : dp_Z) (v3 v4 v5 : Int32) : Option ((Int32 × Int32) ⊕ Int32) := (some (.inl (v4, (v5 + (1 : Int32)))))
set_option maxHeartbeats 1000000 in
set_option maxRecDepth 20000 in
theorem wj_X0_mostApart_49 {post : Option dp_V → dp_H → Prop} {h0 : dp_H} (s : dp_Z) (v3 v4 v5 : Int32) (o : ((Int32 × Int32) ⊕ Int32)) (h : jj_X0_mostApart_49 s v3 v4 v5 = some o) (hk : dp_LK (fun x : (Int32 × Int32) => dp_W 2 mX0_mostApart false h0 0 0 post 0 0 (13, [some (.inr (some 12)), none, none, some (.inl v3), some (.inl x.1), some (.inl x.2), none], [], (hX s))) (fun x : Int32 => dp_W 2 mX0_mostApart false h0 0 0 post 0 0 (55, [none, none, none, none, some (.inl x), none, none], [], (hX s))) o) : dp_W 2 mX0_mostApart false h0 0 0 post 0 0 (49, [some (.inr (some 12)), none, none, some (.inl v3), some (.inl v4), some (.inl v5), none], [], (hX s)) := by
  unfold jj_X0_mostApart_49 at h
  refine dp_blk okX0_mostApart 2 (S' := (13, [some (.inr (some 12)), none, none, some (.inl v3), some (.inl v4), some (.inl (v5 + (1 : Int32))), none], [], (hX s))) rfl ?_
  cases h
  exact hk
def jj_X0_areApart_44 (s : dp_Z) (v1 v2 v3 v4 : Int32) : Option ((Int32 × Int32) ⊕ (Int32 ⊕ Unit)) := (some (.inl (v3, (v4 + (1 : Int32)))))
set_option maxHeartbeats 1000000 in
set_option maxRecDepth 20000 in
theorem wj_X0_areApart_44 {post : Option dp_V → dp_H → Prop} {h0 : dp_H} (s : dp_Z) (v1 v2 v3 v4 : Int32) (o : ((Int32 × Int32) ⊕ (Int32 ⊕ Unit))) (h : jj_X0_areApart_44 s v1 v2 v3 v4 = some o) (hk : dp_LK (fun x : (Int32 × Int32) => dp_W 1 mX0_areApart false h0 0 0 post 0 0 (5, [some (.inr (some 12)), some (.inl v1), some (.inl v2), some (.inl x.1), some (.inl x.2)], [], (hX s))) (dp_LK (fun o : Int32 => post (some (.inl o)) (hX s)) (fun x : Unit => dp_W 1 mX0_areApart false h0 0 0 post 0 0 (50, [none, none, none, none, none], [], (hX s)))) o) : dp_W 1 mX0_areApart false h0 0 0 post 0 0 (44, [some (.inr (some 12)), some (.inl v1), some (.inl v2), some (.inl v3), some (.inl v4)], [], (hX s)) := by
  unfold jj_X0_areApart_44 at h
  refine dp_blk okX0_areApart 2 (S' := (5, [some (.inr (some 12)), some (.inl v1), some (.inl v2), some (.inl v3), some (.inl (v4 + (1 : Int32)))], [], (hX s))) rfl ?_
  cases h
  exact hk
def jb_X0_areApart_5 (s : dp_Z) (v1 v2 : Int32) (x : (Int32 × Int32)) : Option ((Int32 × Int32) ⊕ (Int32 ⊕ Unit)) := (if v2 ≤ x.2 then (some (.inr (.inr ()))) else (dp_bd (j_X5_isIn x.2 v1) fun x1 => (if x1 = (0 : Int32) then (jj_X0_areApart_44 s v1 v2 x.1 x.2) else (if dp_inb x.2 8 = true then (if (x.1 &&& ((s.2 12) (x.2).toNatClampNeg)) = (0 : Int32) then (if dp_inb x.2 8 = true then (jj_X0_areApart_44 s v1 v2 (x.1 ||| ((s.2 12) (x.2).toNatClampNeg)) x.2) else none) else (some (.inr (.inl (0 : Int32))))) else none))))
set_option maxHeartbeats 1000000 in
set_option maxRecDepth 20000 in
theorem wl_X0_areApart_5 {post : Option dp_V → dp_H → Prop} {h0 : dp_H} (s : dp_Z) (v1 v2 : Int32) (x : (Int32 × Int32)) (o : ((Int32 × Int32) ⊕ (Int32 ⊕ Unit))) (h : jb_X0_areApart_5 s v1 v2 x = some o) (hk : dp_LK (fun x : (Int32 × Int32) => dp_W 1 mX0_areApart false h0 0 0 post 0 0 (5, [some (.inr (some 12)), some (.inl v1), some (.inl v2), some (.inl x.1), some (.inl x.2)], [], (hX s))) (dp_LK (fun o : Int32 => post (some (.inl o)) (hX s)) (fun x : Unit => dp_W 1 mX0_areApart false h0 0 0 post 0 0 (50, [none, none, none, none, none], [], (hX s)))) o) : dp_W 1 mX0_areApart false h0 0 0 post 0 0 (5, [some (.inr (some 12)), some (.inl v1), some (.inl v2), some (.inl x.1), some (.inl x.2)], [], (hX s)) := by
  unfold jb_X0_areApart_5 at h
  refine dp_blk okX0_areApart 2 (S' := (8, [some (.inr (some 12)), some (.inl v1), some (.inl v2), some (.inl x.1), some (.inl x.2)], [.inl v2, .inl x.2], (hX s))) rfl ?_
  refine dp_if okX0_areApart rfl (fun (c : v2 ≤ x.2) => ?_) (fun (c : ¬ v2 ≤ x.2) => ?_)
  · have h := dp_ip c h
    refine dp_blk okX0_areApart 0 (S' := (50, [some (.inr (some 12)), some (.inl v1), some (.inl v2), some (.inl x.1), some (.inl x.2)], [], (hX s))) rfl ?_
    cases h
    refine dp_fg [false, false, false, false, false] (L' := [none, none, none, none, none]) rfl rfl ?_
    exact hk
  · have h := dp_ic c h
    refine dp_blk okX0_areApart 2 (S' := (14, [some (.inr (some 12)), some (.inl v1), some (.inl v2), some (.inl x.1), some (.inl x.2)], [.inl v1, .inl x.2], (hX s))) rfl ?_
    obtain ⟨x1, hc, h⟩ := dp_bd_inv h
    refine dp_cSN okX0_areApart okX5_isIn (as := [.inl x.2, .inl v1]) (r := []) rfl lk_NearLiars_Claims_52 npX5_isIn (c_X5_isIn (hX s) x.2 v1 x1 hc) rfl (Nat.le_of_ble_eq_true rfl) (Nat.le_of_ble_eq_true rfl) (Nat.le_refl _) (Nat.le_refl _) ?_
    refine dp_blk okX0_areApart 0 (S' := (17, [some (.inr (some 12)), some (.inl v1), some (.inl v2), some (.inl x.1), some (.inl x.2)], [.inl x1], (hX s))) rfl ?_
    refine dp_if0 okX0_areApart rfl (fun (c : x1 = (0 : Int32)) => ?_) (fun (c : ¬ x1 = (0 : Int32)) => ?_)
    · have h := dp_ip c h
      refine dp_blk okX0_areApart 0 (S' := (44, [some (.inr (some 12)), some (.inl v1), some (.inl v2), some (.inl x.1), some (.inl x.2)], [], (hX s))) rfl ?_
      exact wj_X0_areApart_44 s v1 v2 x.1 x.2 _ h hk
    · have h := dp_ic c h
      refine dp_blk okX0_areApart 4 (S' := (27, [some (.inr (some 12)), some (.inl v1), some (.inl v2), some (.inl x.1), some (.inl x.2)], [.inl x.2, .inr (some 18), .inl x.1], (hX s))) rfl ?_
      obtain ⟨hi, h⟩ := dp_ite h
      refine dp_ial (g := (s.2 12)) okX0_areApart rfl rfl (dp_inb_in hi) ?_
      refine dp_blk okX0_areApart 1 (S' := (29, [some (.inr (some 12)), some (.inl v1), some (.inl v2), some (.inl x.1), some (.inl x.2)], [.inl (x.1 &&& ((s.2 12) (x.2).toNatClampNeg))], (hX s))) rfl ?_
      refine dp_if0 okX0_areApart rfl (fun (c : (x.1 &&& ((s.2 12) (x.2).toNatClampNeg)) = (0 : Int32)) => ?_) (fun (c : ¬ (x.1 &&& ((s.2 12) (x.2).toNatClampNeg)) = (0 : Int32)) => ?_)
      · have h := dp_ip c h
        refine dp_blk okX0_areApart 4 (S' := (41, [some (.inr (some 12)), some (.inl v1), some (.inl v2), some (.inl x.1), some (.inl x.2)], [.inl x.2, .inr (some 18), .inl x.1], (hX s))) rfl ?_
        obtain ⟨hi, h⟩ := dp_ite h
        refine dp_ial (g := (s.2 12)) okX0_areApart rfl rfl (dp_inb_in hi) ?_
        refine dp_blk okX0_areApart 2 (S' := (44, [some (.inr (some 12)), some (.inl v1), some (.inl v2), some (.inl (x.1 ||| ((s.2 12) (x.2).toNatClampNeg))), some (.inl x.2)], [], (hX s))) rfl ?_
        exact wj_X0_areApart_44 s v1 v2 (x.1 ||| ((s.2 12) (x.2).toNatClampNeg)) x.2 _ h hk
      · have h := dp_ic c h
        refine dp_blk okX0_areApart 1 (S' := (33, [some (.inr (some 12)), some (.inl v1), some (.inl v2), some (.inl x.1), some (.inl x.2)], [.inl (0 : Int32)], (hX s))) rfl ?_
        cases h
        exact dp_zret okX0_areApart rfl rfl (by decide) hk
def j_X0_areApart (s : dp_Z) (v1 v2 : Int32) : Option Int32 := (dp_bd (dp_loop (jb_X0_areApart_5 s v1 v2) dp_F ((0 : Int32), (0 : Int32))) fun x => Sum.elim (fun x2 => (some x2)) (fun x2 => (some (1 : Int32))) x)
set_option maxHeartbeats 1000000 in
set_option maxRecDepth 20000 in
theorem we_X0_areApart {post : Option dp_V → dp_H → Prop} {h0 : dp_H} (s : dp_Z) (v1 v2 : Int32) (o : Int32) (h : j_X0_areApart s v1 v2 = some o) (hk : post (some (.inl o)) (hX s)) : dp_W 1 mX0_areApart false h0 0 0 post 0 0 (0, [some (.inr (some 12)), some (.inl v1), some (.inl v2), none, none], [], (hX s)) := by
  unfold j_X0_areApart at h
  refine dp_blk okX0_areApart 4 (S' := (5, [some (.inr (some 12)), some (.inl v1), some (.inl v2), some (.inl (0 : Int32)), some (.inl (0 : Int32))], [], (hX s))) rfl ?_
  obtain ⟨x2, hl, h⟩ := dp_bd_inv h
  refine dp_loopW (wl_X0_areApart_5 s v1 v2) dp_F ((0 : Int32), (0 : Int32)) x2 hl ?_
  rcases x2 with x2 | x2
  · simp only [Sum.elim_inl] at h
    cases h
    exact hk
  · simp only [Sum.elim_inr] at h
    show dp_W 1 mX0_areApart false h0 0 0 post 0 0 (50, [none, none, none, none, none], [], (hX s))
    refine dp_blk okX0_areApart 1 (S' := (51, [none, none, none, none, none], [.inl (1 : Int32)], (hX s))) rfl ?_
    cases h
    exact dp_zret okX0_areApart rfl rfl (by decide) hk
theorem c_X0_areApart (s : dp_Z) (v1 v2 : Int32) (o : Int32) (h : j_X0_areApart s v1 v2 = some o) : dp_C 1 mX0_areApart false [.inr (some 12), .inl v1, .inl v2] (hX s) 0 0 (dp_R (some (.inl o)) (hX s)) := dp_C_of okX0_areApart [some (.inr (some 12)), some (.inl v1), some (.inl v2), none, none] rfl (Nat.le_of_ble_eq_true rfl) (we_X0_areApart s v1 v2 o h ⟨rfl, rfl⟩)
def jb_X0_mostApart_13 (s : dp_Z) (v3 : Int32) (x : (Int32 × Int32)) : Option ((Int32 × Int32) ⊕ Int32) := (if ((1 : Int32) <<< (v3 &&& 31)) ≤ x.2 then (some (.inr x.1)) else (dp_bd (j_J6_bitCount_0f7a4 x.2) fun x2 => (if x2 ≤ x.1 then (jj_X0_mostApart_49 s v3 x.1 x.2) else (dp_bd (j_X0_areApart s x.2 v3) fun x3 => (if x3 = (0 : Int32) then (jj_X0_mostApart_49 s v3 x.1 x.2) else (jj_X0_mostApart_49 s v3 x2 x.2))))))
set_option maxHeartbeats 1000000 in
set_option maxRecDepth 20000 in
theorem wl_X0_mostApart_13 {post : Option dp_V → dp_H → Prop} {h0 : dp_H} (s : dp_Z) (v3 : Int32) (x : (Int32 × Int32)) (o : ((Int32 × Int32) ⊕ Int32)) (h : jb_X0_mostApart_13 s v3 x = some o) (hk : dp_LK (fun x : (Int32 × Int32) => dp_W 2 mX0_mostApart false h0 0 0 post 0 0 (13, [some (.inr (some 12)), none, none, some (.inl v3), some (.inl x.1), some (.inl x.2), none], [], (hX s))) (fun x : Int32 => dp_W 2 mX0_mostApart false h0 0 0 post 0 0 (55, [none, none, none, none, some (.inl x), none, none], [], (hX s))) o) : dp_W 2 mX0_mostApart false h0 0 0 post 0 0 (13, [some (.inr (some 12)), none, none, some (.inl v3), some (.inl x.1), some (.inl x.2), none], [], (hX s)) := by
  unfold jb_X0_mostApart_13 at h
  refine dp_blk okX0_mostApart 4 (S' := (18, [some (.inr (some 12)), none, none, some (.inl v3), some (.inl x.1), some (.inl x.2), none], [.inl ((1 : Int32) <<< (v3 &&& 31)), .inl x.2], (hX s))) rfl ?_
  refine dp_if okX0_mostApart rfl (fun (c : ((1 : Int32) <<< (v3 &&& 31)) ≤ x.2) => ?_) (fun (c : ¬ ((1 : Int32) <<< (v3 &&& 31)) ≤ x.2) => ?_)
  · have h := dp_ip c h
    refine dp_blk okX0_mostApart 0 (S' := (55, [some (.inr (some 12)), none, none, some (.inl v3), some (.inl x.1), some (.inl x.2), none], [], (hX s))) rfl ?_
    cases h
    refine dp_fg [false, false, false, false, true, false, false] (L' := [none, none, none, none, some (.inl x.1), none, none]) rfl rfl ?_
    exact hk
  · have h := dp_ic c h
    refine dp_blk okX0_mostApart 1 (S' := (23, [some (.inr (some 12)), none, none, some (.inl v3), some (.inl x.1), some (.inl x.2), none], [.inl x.2], (hX s))) rfl ?_
    obtain ⟨x2, hc, h⟩ := dp_bd_inv h
    refine dp_cS okX0_mostApart okJ6_bitCount_0f7a4 (as := [.inl x.2]) (r := []) rfl lk_NearLiars_Claims_72 npJ6_bitCount_0f7a4 (c_J6_bitCount_0f7a4 (hX s) x.2 x2 hc) rfl (Nat.le_of_ble_eq_true rfl) (Nat.le_of_ble_eq_true rfl) (Nat.le_refl _) (Nat.le_refl _) ?_
    refine dp_blk okX0_mostApart 3 (S' := (32, [some (.inr (some 12)), none, none, some (.inl v3), some (.inl x.1), some (.inl x.2), some (.inl x2)], [.inl x.1, .inl x2], (hX s))) rfl ?_
    refine dp_if okX0_mostApart rfl (fun (c : x2 ≤ x.1) => ?_) (fun (c : ¬ x2 ≤ x.1) => ?_)
    · have h := dp_ip c h
      refine dp_blk okX0_mostApart 0 (S' := (49, [some (.inr (some 12)), none, none, some (.inl v3), some (.inl x.1), some (.inl x.2), some (.inl x2)], [], (hX s))) rfl ?_
      refine dp_fg [true, false, false, true, true, true, false] (L' := [some (.inr (some 12)), none, none, some (.inl v3), some (.inl x.1), some (.inl x.2), none]) rfl rfl ?_
      exact wj_X0_mostApart_49 s v3 x.1 x.2 _ h hk
    · have h := dp_ic c h
      refine dp_blk okX0_mostApart 3 (S' := (39, [some (.inr (some 12)), none, none, some (.inl v3), some (.inl x.1), some (.inl x.2), some (.inl x2)], [.inl v3, .inl x.2, .inr (some 12)], (hX s))) rfl ?_
      obtain ⟨x3, hc, h⟩ := dp_bd_inv h
      refine dp_cV okX0_mostApart okX0_areApart (as := [.inl x.2, .inl v3]) (r := []) rfl lk_NearLiars_Claims_78 npX0_areApart (c_X0_areApart s x.2 v3 x3 hc) rfl rfl rfl rfl (Nat.le_of_ble_eq_true rfl) (Nat.le_of_ble_eq_true rfl) (Nat.le_refl _) (Nat.le_refl _) ?_
      refine dp_blk okX0_mostApart 0 (S' := (42, [some (.inr (some 12)), none, none, some (.inl v3), some (.inl x.1), some (.inl x.2), some (.inl x2)], [.inl x3], (hX s))) rfl ?_
      refine dp_if0 okX0_mostApart rfl (fun (c : x3 = (0 : Int32)) => ?_) (fun (c : ¬ x3 = (0 : Int32)) => ?_)
      · have h := dp_ip c h
        refine dp_blk okX0_mostApart 0 (S' := (49, [some (.inr (some 12)), none, none, some (.inl v3), some (.inl x.1), some (.inl x.2), some (.inl x2)], [], (hX s))) rfl ?_
        refine dp_fg [true, false, false, true, true, true, false] (L' := [some (.inr (some 12)), none, none, some (.inl v3), some (.inl x.1), some (.inl x.2), none]) rfl rfl ?_
        exact wj_X0_mostApart_49 s v3 x.1 x.2 _ h hk
      · have h := dp_ic c h
        refine dp_blk okX0_mostApart 2 (S' := (49, [some (.inr (some 12)), none, none, some (.inl v3), some (.inl x2), some (.inl x.2), some (.inl x2)], [], (hX s))) rfl ?_
        refine dp_fg [true, false, false, true, true, true, false] (L' := [some (.inr (some 12)), none, none, some (.inl v3), some (.inl x2), some (.inl x.2), none]) rfl rfl ?_
        exact wj_X0_mostApart_49 s v3 x2 x.2 _ h hk
def j_X0_mostApart (s : dp_Z) (v1 v2 : Int32) : Option (Int32 × dp_Z) := (dp_bd (j_X0_gatherInner s v1 v2) fun x1 => (dp_bd (dp_loop (jb_X0_mostApart_13 x1.2 x1.1) dp_F ((0 : Int32), (0 : Int32))) fun x4 => (some (x4, x1.2))))
set_option maxHeartbeats 1000000 in
set_option maxRecDepth 20000 in
theorem we_X0_mostApart {post : Option dp_V → dp_H → Prop} {h0 : dp_H} (s : dp_Z) (v1 v2 : Int32) (o : (Int32 × dp_Z)) (h : j_X0_mostApart s v1 v2 = some o) (hk : post (some (.inl o.1)) (hX o.2)) : dp_W 2 mX0_mostApart false h0 0 0 post 0 0 (0, [some (.inr (some 12)), some (.inl v1), some (.inl v2), none, none, none, none], [], (hX s)) := by
  unfold j_X0_mostApart at h
  refine dp_blk okX0_mostApart 3 (S' := (3, [some (.inr (some 12)), some (.inl v1), some (.inl v2), none, none, none, none], [.inl v2, .inl v1, .inr (some 12)], (hX s))) rfl ?_
  obtain ⟨x1, hc, h⟩ := dp_bd_inv h
  refine dp_cV okX0_mostApart okX0_gatherInner (as := [.inl v1, .inl v2]) (r := []) rfl lk_NearLiars_Claims_68 npX0_gatherInner (c_X0_gatherInner s v1 v2 x1 hc) rfl rfl rfl rfl (Nat.le_of_ble_eq_true rfl) (Nat.le_of_ble_eq_true rfl) (Nat.le_refl _) (Nat.le_refl _) ?_
  refine dp_blk okX0_mostApart 5 (S' := (13, [some (.inr (some 12)), some (.inl v1), some (.inl v2), some (.inl x1.1), some (.inl (0 : Int32)), some (.inl (0 : Int32)), none], [], (hX x1.2))) rfl ?_
  refine dp_fg [true, false, false, true, true, true, false] (L' := [some (.inr (some 12)), none, none, some (.inl x1.1), some (.inl (0 : Int32)), some (.inl (0 : Int32)), none]) rfl rfl ?_
  obtain ⟨x4, hl, h⟩ := dp_bd_inv h
  refine dp_loopW (wl_X0_mostApart_13 x1.2 x1.1) dp_F ((0 : Int32), (0 : Int32)) x4 hl ?_
  show dp_W 2 mX0_mostApart false h0 0 0 post 0 0 (55, [none, none, none, none, some (.inl x4), none, none], [], (hX x1.2))
  refine dp_blk okX0_mostApart 1 (S' := (57, [none, none, none, none, some (.inl x4), none, none], [.inl x4], (hX x1.2))) rfl ?_
  cases h
  exact dp_iret okX0_mostApart rfl rfl hk
theorem c_X0_mostApart (s : dp_Z) (v1 v2 : Int32) (o : (Int32 × dp_Z)) (h : j_X0_mostApart s v1 v2 = some o) : dp_C 2 mX0_mostApart false [.inr (some 12), .inl v1, .inl v2] (hX s) 0 0 (dp_R (some (.inl o.1)) (hX o.2)) := dp_C_of okX0_mostApart [some (.inr (some 12)), some (.inl v1), some (.inl v2), none, none, none, none] rfl (Nat.le_of_ble_eq_true rfl) (we_X0_mostApart s v1 v2 o h ⟨rfl, rfl⟩)
def jj_X0_soleGreatest_50 (s : dp_Z) (v1 v2 v3 v4 v5 : Int32) : Option ((dp_Z × Int32 × Int32 × Int32) ⊕ (dp_Z × Int32 × Int32)) := (some (.inl (s, v3, v4, (v5 + (1 : Int32)))))
set_option maxHeartbeats 1000000 in
set_option maxRecDepth 20000 in
theorem wj_X0_soleGreatest_50 {post : Option dp_V → dp_H → Prop} {h0 : dp_H} (s : dp_Z) (v1 v2 v3 v4 v5 : Int32) (o : ((dp_Z × Int32 × Int32 × Int32) ⊕ (dp_Z × Int32 × Int32))) (h : jj_X0_soleGreatest_50 s v1 v2 v3 v4 v5 = some o) (hk : dp_LK (fun x : (dp_Z × Int32 × Int32 × Int32) => dp_W 3 mX0_soleGreatest false h0 0 0 post 0 0 (9, [some (.inr (some 12)), some (.inl v1), some (.inl v2), some (.inl x.2.1), some (.inl x.2.2.1), some (.inl x.2.2.2), none], [], (hX x.1))) (fun x : (dp_Z × Int32 × Int32) => dp_W 3 mX0_soleGreatest false h0 0 0 post 0 0 (56, [none, none, some (.inl v2), some (.inl x.2.1), some (.inl x.2.2), none, none], [], (hX x.1))) o) : dp_W 3 mX0_soleGreatest false h0 0 0 post 0 0 (50, [some (.inr (some 12)), some (.inl v1), some (.inl v2), some (.inl v3), some (.inl v4), some (.inl v5), none], [], (hX s)) := by
  unfold jj_X0_soleGreatest_50 at h
  refine dp_blk okX0_soleGreatest 2 (S' := (9, [some (.inr (some 12)), some (.inl v1), some (.inl v2), some (.inl v3), some (.inl v4), some (.inl (v5 + (1 : Int32))), none], [], (hX s))) rfl ?_
  cases h
  exact hk
def jb_X0_soleGreatest_9 (v1 v2 : Int32) (x : (dp_Z × Int32 × Int32 × Int32)) : Option ((dp_Z × Int32 × Int32 × Int32) ⊕ (dp_Z × Int32 × Int32)) := (if (4 : Int32) ≤ x.2.2.2 then (some (.inr (x.1, x.2.1, x.2.2.1))) else (dp_bd (j_X0_mostApart x.1 v1 x.2.2.2) fun x1 => (if x1.1 = x.2.1 then (jj_X0_soleGreatest_50 x1.2 v1 v2 x.2.1 (-9 : Int32) x.2.2.2) else (if x1.1 ≤ x.2.1 then (jj_X0_soleGreatest_50 x1.2 v1 v2 x.2.1 x.2.2.1 x.2.2.2) else (jj_X0_soleGreatest_50 x1.2 v1 v2 x1.1 x.2.2.2 x.2.2.2)))))
set_option maxHeartbeats 1000000 in
set_option maxRecDepth 20000 in
theorem wl_X0_soleGreatest_9 {post : Option dp_V → dp_H → Prop} {h0 : dp_H} (v1 v2 : Int32) (x : (dp_Z × Int32 × Int32 × Int32)) (o : ((dp_Z × Int32 × Int32 × Int32) ⊕ (dp_Z × Int32 × Int32))) (h : jb_X0_soleGreatest_9 v1 v2 x = some o) (hk : dp_LK (fun x : (dp_Z × Int32 × Int32 × Int32) => dp_W 3 mX0_soleGreatest false h0 0 0 post 0 0 (9, [some (.inr (some 12)), some (.inl v1), some (.inl v2), some (.inl x.2.1), some (.inl x.2.2.1), some (.inl x.2.2.2), none], [], (hX x.1))) (fun x : (dp_Z × Int32 × Int32) => dp_W 3 mX0_soleGreatest false h0 0 0 post 0 0 (56, [none, none, some (.inl v2), some (.inl x.2.1), some (.inl x.2.2), none, none], [], (hX x.1))) o) : dp_W 3 mX0_soleGreatest false h0 0 0 post 0 0 (9, [some (.inr (some 12)), some (.inl v1), some (.inl v2), some (.inl x.2.1), some (.inl x.2.2.1), some (.inl x.2.2.2), none], [], (hX x.1)) := by
  unfold jb_X0_soleGreatest_9 at h
  refine dp_blk okX0_soleGreatest 2 (S' := (12, [some (.inr (some 12)), some (.inl v1), some (.inl v2), some (.inl x.2.1), some (.inl x.2.2.1), some (.inl x.2.2.2), none], [.inl (4 : Int32), .inl x.2.2.2], (hX x.1))) rfl ?_
  refine dp_if okX0_soleGreatest rfl (fun (c : (4 : Int32) ≤ x.2.2.2) => ?_) (fun (c : ¬ (4 : Int32) ≤ x.2.2.2) => ?_)
  · have h := dp_ip c h
    refine dp_blk okX0_soleGreatest 0 (S' := (56, [some (.inr (some 12)), some (.inl v1), some (.inl v2), some (.inl x.2.1), some (.inl x.2.2.1), some (.inl x.2.2.2), none], [], (hX x.1))) rfl ?_
    cases h
    refine dp_fg [false, false, true, true, true, false, false] (L' := [none, none, some (.inl v2), some (.inl x.2.1), some (.inl x.2.2.1), none, none]) rfl rfl ?_
    exact hk
  · have h := dp_ic c h
    refine dp_blk okX0_soleGreatest 3 (S' := (19, [some (.inr (some 12)), some (.inl v1), some (.inl v2), some (.inl x.2.1), some (.inl x.2.2.1), some (.inl x.2.2.2), none], [.inl x.2.2.2, .inl v1, .inr (some 12)], (hX x.1))) rfl ?_
    obtain ⟨x1, hc, h⟩ := dp_bd_inv h
    refine dp_cV okX0_soleGreatest okX0_mostApart (as := [.inl v1, .inl x.2.2.2]) (r := []) rfl lk_NearLiars_Claims_84 npX0_mostApart (c_X0_mostApart x.1 v1 x.2.2.2 x1 hc) rfl rfl rfl rfl (Nat.le_of_ble_eq_true rfl) (Nat.le_of_ble_eq_true rfl) (Nat.le_refl _) (Nat.le_refl _) ?_
    refine dp_blk okX0_soleGreatest 3 (S' := (27, [some (.inr (some 12)), some (.inl v1), some (.inl v2), some (.inl x.2.1), some (.inl x.2.2.1), some (.inl x.2.2.2), some (.inl x1.1)], [.inl x.2.1, .inl x1.1], (hX x1.2))) rfl ?_
    refine dp_if okX0_soleGreatest rfl (fun (c : ¬ x1.1 = x.2.1) => ?_) (fun (c : x1.1 = x.2.1) => ?_)
    · have h := dp_ic c h
      refine dp_blk okX0_soleGreatest 2 (S' := (40, [some (.inr (some 12)), some (.inl v1), some (.inl v2), some (.inl x.2.1), some (.inl x.2.2.1), some (.inl x.2.2.2), some (.inl x1.1)], [.inl x.2.1, .inl x1.1], (hX x1.2))) rfl ?_
      refine dp_if okX0_soleGreatest rfl (fun (c : x1.1 ≤ x.2.1) => ?_) (fun (c : ¬ x1.1 ≤ x.2.1) => ?_)
      · have h := dp_ip c h
        refine dp_blk okX0_soleGreatest 0 (S' := (50, [some (.inr (some 12)), some (.inl v1), some (.inl v2), some (.inl x.2.1), some (.inl x.2.2.1), some (.inl x.2.2.2), some (.inl x1.1)], [], (hX x1.2))) rfl ?_
        refine dp_fg [true, true, true, true, true, true, false] (L' := [some (.inr (some 12)), some (.inl v1), some (.inl v2), some (.inl x.2.1), some (.inl x.2.2.1), some (.inl x.2.2.2), none]) rfl rfl ?_
        exact wj_X0_soleGreatest_50 x1.2 v1 v2 x.2.1 x.2.2.1 x.2.2.2 _ h hk
      · have h := dp_ic c h
        refine dp_blk okX0_soleGreatest 4 (S' := (50, [some (.inr (some 12)), some (.inl v1), some (.inl v2), some (.inl x1.1), some (.inl x.2.2.2), some (.inl x.2.2.2), some (.inl x1.1)], [], (hX x1.2))) rfl ?_
        refine dp_fg [true, true, true, true, true, true, false] (L' := [some (.inr (some 12)), some (.inl v1), some (.inl v2), some (.inl x1.1), some (.inl x.2.2.2), some (.inl x.2.2.2), none]) rfl rfl ?_
        exact wj_X0_soleGreatest_50 x1.2 v1 v2 x1.1 x.2.2.2 x.2.2.2 _ h hk
    · have h := dp_ip c h
      refine dp_blk okX0_soleGreatest 3 (S' := (50, [some (.inr (some 12)), some (.inl v1), some (.inl v2), some (.inl x.2.1), some (.inl (-9 : Int32)), some (.inl x.2.2.2), some (.inl x1.1)], [], (hX x1.2))) rfl ?_
      refine dp_fg [true, true, true, true, true, true, false] (L' := [some (.inr (some 12)), some (.inl v1), some (.inl v2), some (.inl x.2.1), some (.inl (-9 : Int32)), some (.inl x.2.2.2), none]) rfl rfl ?_
      exact wj_X0_soleGreatest_50 x1.2 v1 v2 x.2.1 (-9 : Int32) x.2.2.2 _ h hk
def j_X0_soleGreatest (s : dp_Z) (v1 v2 : Int32) : Option (Int32 × dp_Z) := (dp_bd (dp_loop (jb_X0_soleGreatest_9 v1 v2) dp_F (s, (0 : Int32), (-9 : Int32), (0 : Int32))) fun x2 => (if x2.2.1 < v2 then (some ((-9 : Int32), x2.1)) else (some (x2.2.2, x2.1))))
set_option maxHeartbeats 1000000 in
set_option maxRecDepth 20000 in
theorem we_X0_soleGreatest {post : Option dp_V → dp_H → Prop} {h0 : dp_H} (s : dp_Z) (v1 v2 : Int32) (o : (Int32 × dp_Z)) (h : j_X0_soleGreatest s v1 v2 = some o) (hk : post (some (.inl o.1)) (hX o.2)) : dp_W 3 mX0_soleGreatest false h0 0 0 post 0 0 (0, [some (.inr (some 12)), some (.inl v1), some (.inl v2), none, none, none, none], [], (hX s)) := by
  unfold j_X0_soleGreatest at h
  refine dp_blk okX0_soleGreatest 6 (S' := (9, [some (.inr (some 12)), some (.inl v1), some (.inl v2), some (.inl (0 : Int32)), some (.inl (-9 : Int32)), some (.inl (0 : Int32)), none], [], (hX s))) rfl ?_
  obtain ⟨x2, hl, h⟩ := dp_bd_inv h
  refine dp_loopW (wl_X0_soleGreatest_9 v1 v2) dp_F (s, (0 : Int32), (-9 : Int32), (0 : Int32)) x2 hl ?_
  show dp_W 3 mX0_soleGreatest false h0 0 0 post 0 0 (56, [none, none, some (.inl v2), some (.inl x2.2.1), some (.inl x2.2.2), none, none], [], (hX x2.1))
  refine dp_blk okX0_soleGreatest 2 (S' := (58, [none, none, some (.inl v2), some (.inl x2.2.1), some (.inl x2.2.2), none, none], [.inl v2, .inl x2.2.1], (hX x2.1))) rfl ?_
  refine dp_if okX0_soleGreatest rfl (fun (c : x2.2.1 < v2) => ?_) (fun (c : ¬ x2.2.1 < v2) => ?_)
  · have h := dp_ip c h
    refine dp_blk okX0_soleGreatest 1 (S' := (68, [none, none, some (.inl v2), some (.inl x2.2.1), some (.inl x2.2.2), none, none], [.inl (-9 : Int32)], (hX x2.1))) rfl ?_
    cases h
    exact dp_iret okX0_soleGreatest rfl rfl hk
  · have h := dp_ic c h
    refine dp_blk okX0_soleGreatest 2 (S' := (68, [none, none, some (.inl v2), some (.inl x2.2.1), some (.inl x2.2.2), none, none], [.inl x2.2.2], (hX x2.1))) rfl ?_
    cases h
    exact dp_iret okX0_soleGreatest rfl rfl hk
theorem c_X0_soleGreatest (s : dp_Z) (v1 v2 : Int32) (o : (Int32 × dp_Z)) (h : j_X0_soleGreatest s v1 v2 = some o) : dp_C 3 mX0_soleGreatest false [.inr (some 12), .inl v1, .inl v2] (hX s) 0 0 (dp_R (some (.inl o.1)) (hX o.2)) := dp_C_of okX0_soleGreatest [some (.inr (some 12)), some (.inl v1), some (.inl v2), none, none, none, none] rfl (Nat.le_of_ble_eq_true rfl) (we_X0_soleGreatest s v1 v2 o h ⟨rfl, rfl⟩)
