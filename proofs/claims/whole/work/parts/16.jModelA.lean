/-! ===== printed by program: the pure functions of the methods, and that the bytecode does what they say ===== -/
def j_X6_within (v0 v1 v2 : Int32) : Option Int32 := (if v0 < v1 then (some (0 : Int32)) else (if v2 < v0 then (some (0 : Int32)) else (some (1 : Int32))))
set_option maxHeartbeats 1000000 in
set_option maxRecDepth 20000 in
theorem we_X6_within {post : Option dp_V → dp_H → Prop} {h0 : dp_H} (hh : dp_H) (v0 v1 v2 : Int32) (o : Int32) (h : j_X6_within v0 v1 v2 = some o) (hk : post (some (.inl o)) hh) : dp_W 0 mX6_within false h0 0 0 post 0 0 (0, [some (.inl v0), some (.inl v1), some (.inl v2)], [], hh) := by
  unfold j_X6_within at h
  refine dp_blk okX6_within 2 (S' := (2, [some (.inl v0), some (.inl v1), some (.inl v2)], [.inl v1, .inl v0], hh)) rfl ?_
  refine dp_if okX6_within rfl (fun (c : v0 < v1) => ?_) (fun (c : ¬ v0 < v1) => ?_)
  · have h := dp_ip c h
    refine dp_blk okX6_within 1 (S' := (15, [some (.inl v0), some (.inl v1), some (.inl v2)], [.inl (0 : Int32)], hh)) rfl ?_
    cases h
    exact dp_zret okX6_within rfl rfl (by decide) hk
  · have h := dp_ic c h
    refine dp_blk okX6_within 2 (S' := (7, [some (.inl v0), some (.inl v1), some (.inl v2)], [.inl v2, .inl v0], hh)) rfl ?_
    refine dp_if okX6_within rfl (fun (c : v2 < v0) => ?_) (fun (c : ¬ v2 < v0) => ?_)
    · have h := dp_ip c h
      refine dp_blk okX6_within 1 (S' := (15, [some (.inl v0), some (.inl v1), some (.inl v2)], [.inl (0 : Int32)], hh)) rfl ?_
      cases h
      exact dp_zret okX6_within rfl rfl (by decide) hk
    · have h := dp_ic c h
      refine dp_blk okX6_within 2 (S' := (15, [some (.inl v0), some (.inl v1), some (.inl v2)], [.inl (1 : Int32)], hh)) rfl ?_
      cases h
      exact dp_zret okX6_within rfl rfl (by decide) hk
theorem c_X6_within (hh : dp_H) (v0 v1 v2 : Int32) (o : Int32) (h : j_X6_within v0 v1 v2 = some o) : dp_C 0 mX6_within false [.inl v0, .inl v1, .inl v2] hh 0 0 (dp_R (some (.inl o)) hh) := dp_C_of okX6_within [some (.inl v0), some (.inl v1), some (.inl v2)] rfl (Nat.le_of_ble_eq_true rfl) (we_X6_within hh v0 v1 v2 o h ⟨rfl, rfl⟩)
def j_X6_has (v0 v1 : Int32) : Option Int32 := (if ((v0 >>> (v1 &&& 31)) &&& (1 : Int32)) = (1 : Int32) then (some (1 : Int32)) else (some (0 : Int32)))
set_option maxHeartbeats 1000000 in
set_option maxRecDepth 20000 in
theorem we_X6_has {post : Option dp_V → dp_H → Prop} {h0 : dp_H} (hh : dp_H) (v0 v1 : Int32) (o : Int32) (h : j_X6_has v0 v1 = some o) (hk : post (some (.inl o)) hh) : dp_W 0 mX6_has false h0 0 0 post 0 0 (0, [some (.inl v0), some (.inl v1)], [], hh) := by
  unfold j_X6_has at h
  refine dp_blk okX6_has 6 (S' := (6, [some (.inl v0), some (.inl v1)], [.inl (1 : Int32), .inl ((v0 >>> (v1 &&& 31)) &&& (1 : Int32))], hh)) rfl ?_
  refine dp_if okX6_has rfl (fun (c : ¬ ((v0 >>> (v1 &&& 31)) &&& (1 : Int32)) = (1 : Int32)) => ?_) (fun (c : ((v0 >>> (v1 &&& 31)) &&& (1 : Int32)) = (1 : Int32)) => ?_)
  · have h := dp_ic c h
    refine dp_blk okX6_has 1 (S' := (14, [some (.inl v0), some (.inl v1)], [.inl (0 : Int32)], hh)) rfl ?_
    cases h
    exact dp_zret okX6_has rfl rfl (by decide) hk
  · have h := dp_ip c h
    refine dp_blk okX6_has 2 (S' := (14, [some (.inl v0), some (.inl v1)], [.inl (1 : Int32)], hh)) rfl ?_
    cases h
    exact dp_zret okX6_has rfl rfl (by decide) hk
theorem c_X6_has (hh : dp_H) (v0 v1 : Int32) (o : Int32) (h : j_X6_has v0 v1 = some o) : dp_C 0 mX6_has false [.inl v0, .inl v1] hh 0 0 (dp_R (some (.inl o)) hh) := dp_C_of okX6_has [some (.inl v0), some (.inl v1)] rfl (Nat.le_of_ble_eq_true rfl) (we_X6_has hh v0 v1 o h ⟨rfl, rfl⟩)
def jb_X6_size_4 (v0 : Int32) (x : (Int32 × Int32)) : Option ((Int32 × Int32) ⊕ Int32) := (if (12 : Int32) ≤ x.2 then (some (.inr x.1)) else (some (.inl ((x.1 + ((v0 >>> (x.2 &&& 31)) &&& (1 : Int32))), (x.2 + (1 : Int32))))))
set_option maxHeartbeats 1000000 in
set_option maxRecDepth 20000 in
theorem wl_X6_size_4 {post : Option dp_V → dp_H → Prop} {h0 : dp_H} (hh : dp_H) (v0 : Int32) (x : (Int32 × Int32)) (o : ((Int32 × Int32) ⊕ Int32)) (h : jb_X6_size_4 v0 x = some o) (hk : dp_LK (fun x : (Int32 × Int32) => dp_W 0 mX6_size false h0 0 0 post 0 0 (4, [some (.inl v0), some (.inl x.1), some (.inl x.2)], [], hh)) (fun x : Int32 => dp_W 0 mX6_size false h0 0 0 post 0 0 (24, [none, some (.inl x), none], [], hh)) o) : dp_W 0 mX6_size false h0 0 0 post 0 0 (4, [some (.inl v0), some (.inl x.1), some (.inl x.2)], [], hh) := by
  unfold jb_X6_size_4 at h
  refine dp_blk okX6_size 2 (S' := (7, [some (.inl v0), some (.inl x.1), some (.inl x.2)], [.inl (12 : Int32), .inl x.2], hh)) rfl ?_
  refine dp_if okX6_size rfl (fun (c : (12 : Int32) ≤ x.2) => ?_) (fun (c : ¬ (12 : Int32) ≤ x.2) => ?_)
  · have h := dp_ip c h
    refine dp_blk okX6_size 0 (S' := (24, [some (.inl v0), some (.inl x.1), some (.inl x.2)], [], hh)) rfl ?_
    cases h
    refine dp_fg [false, true, false] (L' := [none, some (.inl x.1), none]) rfl rfl ?_
    exact hk
  · have h := dp_ic c h
    refine dp_blk okX6_size 10 (S' := (4, [some (.inl v0), some (.inl (x.1 + ((v0 >>> (x.2 &&& 31)) &&& (1 : Int32)))), some (.inl (x.2 + (1 : Int32)))], [], hh)) rfl ?_
    cases h
    exact hk
def j_X6_size (v0 : Int32) : Option Int32 := (dp_bd (dp_loop (jb_X6_size_4 v0) dp_F ((0 : Int32), (0 : Int32))) fun x1 => (some x1))
set_option maxHeartbeats 1000000 in
set_option maxRecDepth 20000 in
theorem we_X6_size {post : Option dp_V → dp_H → Prop} {h0 : dp_H} (hh : dp_H) (v0 : Int32) (o : Int32) (h : j_X6_size v0 = some o) (hk : post (some (.inl o)) hh) : dp_W 0 mX6_size false h0 0 0 post 0 0 (0, [some (.inl v0), none, none], [], hh) := by
  unfold j_X6_size at h
  refine dp_blk okX6_size 4 (S' := (4, [some (.inl v0), some (.inl (0 : Int32)), some (.inl (0 : Int32))], [], hh)) rfl ?_
  obtain ⟨x1, hl, h⟩ := dp_bd_inv h
  refine dp_loopW (wl_X6_size_4 hh v0) dp_F ((0 : Int32), (0 : Int32)) x1 hl ?_
  show dp_W 0 mX6_size false h0 0 0 post 0 0 (24, [none, some (.inl x1), none], [], hh)
  refine dp_blk okX6_size 1 (S' := (25, [none, some (.inl x1), none], [.inl x1], hh)) rfl ?_
  cases h
  exact dp_iret okX6_size rfl rfl hk
theorem c_X6_size (hh : dp_H) (v0 : Int32) (o : Int32) (h : j_X6_size v0 = some o) : dp_C 0 mX6_size false [.inl v0] hh 0 0 (dp_R (some (.inl o)) hh) := dp_C_of okX6_size [some (.inl v0), none, none] rfl (Nat.le_of_ble_eq_true rfl) (we_X6_size hh v0 o h ⟨rfl, rfl⟩)
def j_X6_isNode (s : dp_Z) (v1 : Int32) : Option Int32 := (dp_bd (j_X6_within v1 (0 : Int32) ((s.1 0) - (1 : Int32))) fun x1 => (if x1 &&& 1 = x1 then (some x1) else none))
set_option maxHeartbeats 1000000 in
set_option maxRecDepth 20000 in
theorem we_X6_isNode {post : Option dp_V → dp_H → Prop} {h0 : dp_H} (s : dp_Z) (v1 : Int32) (o : Int32) (h : j_X6_isNode s v1 = some o) (hk : post (some (.inl o)) (hM s)) : dp_W 1 mX6_isNode false h0 0 0 post 0 0 (0, [some (.inr (some 0)), some (.inl v1)], [], (hM s)) := by
  unfold j_X6_isNode at h
  refine dp_blk okX6_isNode 6 (S' := (8, [some (.inr (some 0)), some (.inl v1)], [.inl ((s.1 0) - (1 : Int32)), .inl (0 : Int32), .inl v1], (hM s))) rfl ?_
  obtain ⟨x1, hc, h⟩ := dp_bd_inv h
  refine dp_cS okX6_isNode okX6_within (as := [.inl v1, .inl (0 : Int32), .inl ((s.1 0) - (1 : Int32))]) (r := []) rfl lk_NearLiarsModel_63 npX6_within (c_X6_within (hM s) v1 (0 : Int32) ((s.1 0) - (1 : Int32)) x1 hc) rfl (Nat.le_of_ble_eq_true rfl) (Nat.le_of_ble_eq_true rfl) (Nat.le_refl _) (Nat.le_refl _) ?_
  refine dp_blk okX6_isNode 0 (S' := (11, [some (.inr (some 0)), some (.inl v1)], [.inl x1], (hM s))) rfl ?_
  obtain ⟨hz, h⟩ := dp_ite h
  cases h
  exact dp_zret okX6_isNode rfl rfl hz hk
theorem c_X6_isNode (s : dp_Z) (v1 : Int32) (o : Int32) (h : j_X6_isNode s v1 = some o) : dp_C 1 mX6_isNode false [.inr (some 0), .inl v1] (hM s) 0 0 (dp_R (some (.inl o)) (hM s)) := dp_C_of okX6_isNode [some (.inr (some 0)), some (.inl v1)] rfl (Nat.le_of_ble_eq_true rfl) (we_X6_isNode s v1 o h ⟨rfl, rfl⟩)
def jb_X6_lays_28 (x : (dp_Z × Int32)) : Option ((dp_Z × Int32) ⊕ dp_Z) := (if (12 : Int32) ≤ x.2 then (some (.inr x.1)) else (if dp_inb x.2 12 = true then (dp_bd (some (dp_sr x.1 0 (upd (x.1.2 0) (x.2).toNatClampNeg (0 : Int32)))) fun s6 => (if dp_inb x.2 12 = true then (dp_bd (some (dp_sr s6 1 (upd (s6.2 1) (x.2).toNatClampNeg (-9 : Int32)))) fun s7 => (some (.inl (s7, (x.2 + (1 : Int32)))))) else none)) else none))
set_option maxHeartbeats 1000000 in
set_option maxRecDepth 20000 in
theorem wl_X6_lays_28 {post : Option dp_V → dp_H → Prop} {h0 : dp_H} (x : (dp_Z × Int32)) (o : ((dp_Z × Int32) ⊕ dp_Z)) (h : jb_X6_lays_28 x = some o) (hk : dp_LK (fun x : (dp_Z × Int32) => dp_W 6 mX6_lays false h0 0 0 post 0 0 (28, [some (.inr (some 0)), none, none, none, some (.inl x.2)], [], (hM x.1))) (fun x : dp_Z => dp_W 6 mX6_lays false h0 0 0 post 0 0 (58, [some (.inr (some 0)), none, none, none, none], [], (hM x))) o) : dp_W 6 mX6_lays false h0 0 0 post 0 0 (28, [some (.inr (some 0)), none, none, none, some (.inl x.2)], [], (hM x.1)) := by
  unfold jb_X6_lays_28 at h
  refine dp_blk okX6_lays 2 (S' := (32, [some (.inr (some 0)), none, none, none, some (.inl x.2)], [.inl (12 : Int32), .inl x.2], (hM x.1))) rfl ?_
  refine dp_if okX6_lays rfl (fun (c : (12 : Int32) ≤ x.2) => ?_) (fun (c : ¬ (12 : Int32) ≤ x.2) => ?_)
  · have h := dp_ip c h
    refine dp_blk okX6_lays 0 (S' := (58, [some (.inr (some 0)), none, none, none, some (.inl x.2)], [], (hM x.1))) rfl ?_
    cases h
    refine dp_fg [true, false, false, false, false] (L' := [some (.inr (some 0)), none, none, none, none]) rfl rfl ?_
    exact hk
  · have h := dp_ic c h
    refine dp_blk okX6_lays 4 (S' := (42, [some (.inr (some 0)), none, none, none, some (.inl x.2)], [.inl (0 : Int32), .inl x.2, .inr (some 1)], (hM x.1))) rfl ?_
    obtain ⟨hi, h⟩ := dp_ite h
    obtain ⟨s6, hs, h⟩ := dp_bd_inv h
    have hs := Option.some.inj hs
    refine dp_iase (g := (x.1.2 0)) okX6_lays rfl rfl (dp_inb_in hi) ((ahM_0 x.1 _).trans (congrArg hM hs)) ?_
    refine dp_blk okX6_lays 4 (S' := (51, [some (.inr (some 0)), none, none, none, some (.inl x.2)], [.inl (-9 : Int32), .inl x.2, .inr (some 2)], (hM s6))) rfl ?_
    obtain ⟨hi, h⟩ := dp_ite h
    obtain ⟨s7, hs, h⟩ := dp_bd_inv h
    have hs := Option.some.inj hs
    refine dp_iase (g := (s6.2 1)) okX6_lays rfl rfl (dp_inb_in hi) ((ahM_1 s6 _).trans (congrArg hM hs)) ?_
    refine dp_blk okX6_lays 2 (S' := (28, [some (.inr (some 0)), none, none, none, some (.inl (x.2 + (1 : Int32)))], [], (hM s7))) rfl ?_
    cases h
    exact hk
def jj_X6_isFreeSlot_28 (s : dp_Z) (v1 v2 v3 : Int32) : Option (Int32 ⊕ (Int32 ⊕ Unit)) := (some (.inl (v3 + (1 : Int32))))
set_option maxHeartbeats 1000000 in
set_option maxRecDepth 20000 in
theorem wj_X6_isFreeSlot_28 {post : Option dp_V → dp_H → Prop} {h0 : dp_H} (s : dp_Z) (v1 v2 v3 : Int32) (o : (Int32 ⊕ (Int32 ⊕ Unit))) (h : jj_X6_isFreeSlot_28 s v1 v2 v3 = some o) (hk : dp_LK (fun x : Int32 => dp_W 2 mX6_isFreeSlot false h0 0 0 post 0 0 (2, [some (.inr (some 0)), some (.inl v1), some (.inl v2), some (.inl x)], [], (hM s))) (dp_LK (fun o : Int32 => post (some (.inl o)) (hM s)) (fun x : Unit => dp_W 2 mX6_isFreeSlot false h0 0 0 post 0 0 (34, [none, none, none, none], [], (hM s)))) o) : dp_W 2 mX6_isFreeSlot false h0 0 0 post 0 0 (28, [some (.inr (some 0)), some (.inl v1), some (.inl v2), some (.inl v3)], [], (hM s)) := by
  unfold jj_X6_isFreeSlot_28 at h
  refine dp_blk okX6_isFreeSlot 2 (S' := (2, [some (.inr (some 0)), some (.inl v1), some (.inl v2), some (.inl (v3 + (1 : Int32)))], [], (hM s))) rfl ?_
  cases h
  exact hk
def j_X6_isApart (s : dp_Z) (v1 v2 : Int32) : Option Int32 := (if dp_inb v1 12 = true then (dp_bd (j_X6_has ((s.2 0) (v1).toNatClampNeg) v2) fun x1 => (if x1 = (0 : Int32) then (if dp_inb v1 12 = true then (if dp_inb v2 12 = true then (if (((s.2 0) (v1).toNatClampNeg) &&& ((s.2 0) (v2).toNatClampNeg)) = (0 : Int32) then (some (1 : Int32)) else (some (0 : Int32))) else none) else none) else (some (0 : Int32)))) else none)
set_option maxHeartbeats 1000000 in
set_option maxRecDepth 20000 in
theorem we_X6_isApart {post : Option dp_V → dp_H → Prop} {h0 : dp_H} (s : dp_Z) (v1 v2 : Int32) (o : Int32) (h : j_X6_isApart s v1 v2 = some o) (hk : post (some (.inl o)) (hM s)) : dp_W 1 mX6_isApart false h0 0 0 post 0 0 (0, [some (.inr (some 0)), some (.inl v1), some (.inl v2)], [], (hM s)) := by
  unfold j_X6_isApart at h
  refine dp_blk okX6_isApart 3 (S' := (5, [some (.inr (some 0)), some (.inl v1), some (.inl v2)], [.inl v1, .inr (some 1)], (hM s))) rfl ?_
  obtain ⟨hi, h⟩ := dp_ite h
  refine dp_ial (g := (s.2 0)) okX6_isApart rfl rfl (dp_inb_in hi) ?_
  refine dp_blk okX6_isApart 1 (S' := (7, [some (.inr (some 0)), some (.inl v1), some (.inl v2)], [.inl v2, .inl ((s.2 0) (v1).toNatClampNeg)], (hM s))) rfl ?_
  obtain ⟨x1, hc, h⟩ := dp_bd_inv h
  refine dp_cS okX6_isApart okX6_has (as := [.inl ((s.2 0) (v1).toNatClampNeg), .inl v2]) (r := []) rfl lk_NearLiarsModel_93 npX6_has (c_X6_has (hM s) ((s.2 0) (v1).toNatClampNeg) v2 x1 hc) rfl (Nat.le_of_ble_eq_true rfl) (Nat.le_of_ble_eq_true rfl) (Nat.le_refl _) (Nat.le_refl _) ?_
  refine dp_blk okX6_isApart 0 (S' := (10, [some (.inr (some 0)), some (.inl v1), some (.inl v2)], [.inl x1], (hM s))) rfl ?_
  refine dp_if0 okX6_isApart rfl (fun (c : ¬ x1 = (0 : Int32)) => ?_) (fun (c : x1 = (0 : Int32)) => ?_)
  · have h := dp_ic c h
    refine dp_blk okX6_isApart 1 (S' := (34, [some (.inr (some 0)), some (.inl v1), some (.inl v2)], [.inl (0 : Int32)], (hM s))) rfl ?_
    cases h
    exact dp_zret okX6_isApart rfl rfl (by decide) hk
  · have h := dp_ip c h
    refine dp_blk okX6_isApart 3 (S' := (18, [some (.inr (some 0)), some (.inl v1), some (.inl v2)], [.inl v1, .inr (some 1)], (hM s))) rfl ?_
    obtain ⟨hi, h⟩ := dp_ite h
    refine dp_ial (g := (s.2 0)) okX6_isApart rfl rfl (dp_inb_in hi) ?_
    refine dp_blk okX6_isApart 3 (S' := (24, [some (.inr (some 0)), some (.inl v1), some (.inl v2)], [.inl v2, .inr (some 1), .inl ((s.2 0) (v1).toNatClampNeg)], (hM s))) rfl ?_
    obtain ⟨hi, h⟩ := dp_ite h
    refine dp_ial (g := (s.2 0)) okX6_isApart rfl rfl (dp_inb_in hi) ?_
    refine dp_blk okX6_isApart 1 (S' := (26, [some (.inr (some 0)), some (.inl v1), some (.inl v2)], [.inl (((s.2 0) (v1).toNatClampNeg) &&& ((s.2 0) (v2).toNatClampNeg))], (hM s))) rfl ?_
    refine dp_if0 okX6_isApart rfl (fun (c : ¬ (((s.2 0) (v1).toNatClampNeg) &&& ((s.2 0) (v2).toNatClampNeg)) = (0 : Int32)) => ?_) (fun (c : (((s.2 0) (v1).toNatClampNeg) &&& ((s.2 0) (v2).toNatClampNeg)) = (0 : Int32)) => ?_)
    · have h := dp_ic c h
      refine dp_blk okX6_isApart 1 (S' := (34, [some (.inr (some 0)), some (.inl v1), some (.inl v2)], [.inl (0 : Int32)], (hM s))) rfl ?_
      cases h
      exact dp_zret okX6_isApart rfl rfl (by decide) hk
    · have h := dp_ip c h
      refine dp_blk okX6_isApart 2 (S' := (34, [some (.inr (some 0)), some (.inl v1), some (.inl v2)], [.inl (1 : Int32)], (hM s))) rfl ?_
      cases h
      exact dp_zret okX6_isApart rfl rfl (by decide) hk
theorem c_X6_isApart (s : dp_Z) (v1 v2 : Int32) (o : Int32) (h : j_X6_isApart s v1 v2 = some o) : dp_C 1 mX6_isApart false [.inr (some 0), .inl v1, .inl v2] (hM s) 0 0 (dp_R (some (.inl o)) (hM s)) := dp_C_of okX6_isApart [some (.inr (some 0)), some (.inl v1), some (.inl v2)] rfl (Nat.le_of_ble_eq_true rfl) (we_X6_isApart s v1 v2 o h ⟨rfl, rfl⟩)
def jb_X6_isFreeSlot_2 (s : dp_Z) (v1 v2 : Int32) (x : Int32) : Option (Int32 ⊕ (Int32 ⊕ Unit)) := (if v1 ≤ x then (some (.inr (.inr ()))) else (if dp_inb x 12 = true then (if ((s.2 2) (x).toNatClampNeg) = v2 then (dp_bd (j_X6_isApart s x v1) fun x1 => (if x1 = (0 : Int32) then (some (.inr (.inl (0 : Int32)))) else (jj_X6_isFreeSlot_28 s v1 v2 x))) else (jj_X6_isFreeSlot_28 s v1 v2 x)) else none))
set_option maxHeartbeats 1000000 in
set_option maxRecDepth 20000 in
theorem wl_X6_isFreeSlot_2 {post : Option dp_V → dp_H → Prop} {h0 : dp_H} (s : dp_Z) (v1 v2 : Int32) (x : Int32) (o : (Int32 ⊕ (Int32 ⊕ Unit))) (h : jb_X6_isFreeSlot_2 s v1 v2 x = some o) (hk : dp_LK (fun x : Int32 => dp_W 2 mX6_isFreeSlot false h0 0 0 post 0 0 (2, [some (.inr (some 0)), some (.inl v1), some (.inl v2), some (.inl x)], [], (hM s))) (dp_LK (fun o : Int32 => post (some (.inl o)) (hM s)) (fun x : Unit => dp_W 2 mX6_isFreeSlot false h0 0 0 post 0 0 (34, [none, none, none, none], [], (hM s)))) o) : dp_W 2 mX6_isFreeSlot false h0 0 0 post 0 0 (2, [some (.inr (some 0)), some (.inl v1), some (.inl v2), some (.inl x)], [], (hM s)) := by
  unfold jb_X6_isFreeSlot_2 at h
  refine dp_blk okX6_isFreeSlot 2 (S' := (4, [some (.inr (some 0)), some (.inl v1), some (.inl v2), some (.inl x)], [.inl v1, .inl x], (hM s))) rfl ?_
  refine dp_if okX6_isFreeSlot rfl (fun (c : v1 ≤ x) => ?_) (fun (c : ¬ v1 ≤ x) => ?_)
  · have h := dp_ip c h
    refine dp_blk okX6_isFreeSlot 0 (S' := (34, [some (.inr (some 0)), some (.inl v1), some (.inl v2), some (.inl x)], [], (hM s))) rfl ?_
    cases h
    refine dp_fg [false, false, false, false] (L' := [none, none, none, none]) rfl rfl ?_
    exact hk
  · have h := dp_ic c h
    refine dp_blk okX6_isFreeSlot 3 (S' := (12, [some (.inr (some 0)), some (.inl v1), some (.inl v2), some (.inl x)], [.inl x, .inr (some 3)], (hM s))) rfl ?_
    obtain ⟨hi, h⟩ := dp_ite h
    refine dp_ial (g := (s.2 2)) okX6_isFreeSlot rfl rfl (dp_inb_in hi) ?_
    refine dp_blk okX6_isFreeSlot 1 (S' := (14, [some (.inr (some 0)), some (.inl v1), some (.inl v2), some (.inl x)], [.inl v2, .inl ((s.2 2) (x).toNatClampNeg)], (hM s))) rfl ?_
    refine dp_if okX6_isFreeSlot rfl (fun (c : ¬ ((s.2 2) (x).toNatClampNeg) = v2) => ?_) (fun (c : ((s.2 2) (x).toNatClampNeg) = v2) => ?_)
    · have h := dp_ic c h
      refine dp_blk okX6_isFreeSlot 0 (S' := (28, [some (.inr (some 0)), some (.inl v1), some (.inl v2), some (.inl x)], [], (hM s))) rfl ?_
      exact wj_X6_isFreeSlot_28 s v1 v2 x _ h hk
    · have h := dp_ip c h
      refine dp_blk okX6_isFreeSlot 3 (S' := (20, [some (.inr (some 0)), some (.inl v1), some (.inl v2), some (.inl x)], [.inl v1, .inl x, .inr (some 0)], (hM s))) rfl ?_
      obtain ⟨x1, hc, h⟩ := dp_bd_inv h
      refine dp_cV okX6_isFreeSlot okX6_isApart (as := [.inl x, .inl v1]) (r := []) rfl lk_NearLiarsModel_97 npX6_isApart (c_X6_isApart s x v1 x1 hc) rfl rfl rfl rfl (Nat.le_of_ble_eq_true rfl) (Nat.le_of_ble_eq_true rfl) (Nat.le_refl _) (Nat.le_refl _) ?_
      refine dp_blk okX6_isFreeSlot 0 (S' := (23, [some (.inr (some 0)), some (.inl v1), some (.inl v2), some (.inl x)], [.inl x1], (hM s))) rfl ?_
      refine dp_if0 okX6_isFreeSlot rfl (fun (c : ¬ x1 = (0 : Int32)) => ?_) (fun (c : x1 = (0 : Int32)) => ?_)
      · have h := dp_ic c h
        refine dp_blk okX6_isFreeSlot 0 (S' := (28, [some (.inr (some 0)), some (.inl v1), some (.inl v2), some (.inl x)], [], (hM s))) rfl ?_
        exact wj_X6_isFreeSlot_28 s v1 v2 x _ h hk
      · have h := dp_ip c h
        refine dp_blk okX6_isFreeSlot 1 (S' := (27, [some (.inr (some 0)), some (.inl v1), some (.inl v2), some (.inl x)], [.inl (0 : Int32)], (hM s))) rfl ?_
        cases h
        exact dp_zret okX6_isFreeSlot rfl rfl (by decide) hk
def j_X6_isFreeSlot (s : dp_Z) (v1 v2 : Int32) : Option Int32 := (dp_bd (dp_loop (jb_X6_isFreeSlot_2 s v1 v2) dp_F (0 : Int32)) fun x => Sum.elim (fun x2 => (some x2)) (fun x2 => (some (1 : Int32))) x)
set_option maxHeartbeats 1000000 in
set_option maxRecDepth 20000 in
theorem we_X6_isFreeSlot {post : Option dp_V → dp_H → Prop} {h0 : dp_H} (s : dp_Z) (v1 v2 : Int32) (o : Int32) (h : j_X6_isFreeSlot s v1 v2 = some o) (hk : post (some (.inl o)) (hM s)) : dp_W 2 mX6_isFreeSlot false h0 0 0 post 0 0 (0, [some (.inr (some 0)), some (.inl v1), some (.inl v2), none], [], (hM s)) := by
  unfold j_X6_isFreeSlot at h
  refine dp_blk okX6_isFreeSlot 2 (S' := (2, [some (.inr (some 0)), some (.inl v1), some (.inl v2), some (.inl (0 : Int32))], [], (hM s))) rfl ?_
  obtain ⟨x2, hl, h⟩ := dp_bd_inv h
  refine dp_loopW (wl_X6_isFreeSlot_2 s v1 v2) dp_F (0 : Int32) x2 hl ?_
  rcases x2 with x2 | x2
  · simp only [Sum.elim_inl] at h
    cases h
    exact hk
  · simp only [Sum.elim_inr] at h
    show dp_W 2 mX6_isFreeSlot false h0 0 0 post 0 0 (34, [none, none, none, none], [], (hM s))
    refine dp_blk okX6_isFreeSlot 1 (S' := (35, [none, none, none, none], [.inl (1 : Int32)], (hM s))) rfl ?_
    cases h
    exact dp_zret okX6_isFreeSlot rfl rfl (by decide) hk
theorem c_X6_isFreeSlot (s : dp_Z) (v1 v2 : Int32) (o : Int32) (h : j_X6_isFreeSlot s v1 v2 = some o) : dp_C 2 mX6_isFreeSlot false [.inr (some 0), .inl v1, .inl v2] (hM s) 0 0 (dp_R (some (.inl o)) (hM s)) := dp_C_of okX6_isFreeSlot [some (.inr (some 0)), some (.inl v1), some (.inl v2), none] rfl (Nat.le_of_ble_eq_true rfl) (we_X6_isFreeSlot s v1 v2 o h ⟨rfl, rfl⟩)
def jb_X6_dealsSlots_17 (s : dp_Z) (v1 : Int32) (x : Int32) : Option (Int32 ⊕ Int32) := (dp_bd (j_X6_isFreeSlot s v1 x) fun x2 => (if x2 = (0 : Int32) then (some (.inl (x + (1 : Int32)))) else (some (.inr x))))
set_option maxHeartbeats 1000000 in
set_option maxRecDepth 20000 in
theorem wl_X6_dealsSlots_17 {post : Option dp_V → dp_H → Prop} {h0 : dp_H} (s : dp_Z) (v1 : Int32) (x : Int32) (o : (Int32 ⊕ Int32)) (h : jb_X6_dealsSlots_17 s v1 x = some o) (hk : dp_LK (fun x : Int32 => dp_W 3 mX6_dealsSlots false h0 0 0 post 0 0 (17, [some (.inr (some 0)), some (.inl v1), some (.inl x)], [], (hM s))) (fun x : Int32 => dp_W 3 mX6_dealsSlots false h0 0 0 post 0 0 (32, [some (.inr (some 0)), some (.inl v1), some (.inl x)], [], (hM s))) o) : dp_W 3 mX6_dealsSlots false h0 0 0 post 0 0 (17, [some (.inr (some 0)), some (.inl v1), some (.inl x)], [], (hM s)) := by
  unfold jb_X6_dealsSlots_17 at h
  refine dp_blk okX6_dealsSlots 3 (S' := (20, [some (.inr (some 0)), some (.inl v1), some (.inl x)], [.inl x, .inl v1, .inr (some 0)], (hM s))) rfl ?_
  obtain ⟨x2, hc, h⟩ := dp_bd_inv h
  refine dp_cV okX6_dealsSlots okX6_isFreeSlot (as := [.inl v1, .inl x]) (r := []) rfl lk_NearLiarsModel_103 npX6_isFreeSlot (c_X6_isFreeSlot s v1 x x2 hc) rfl rfl rfl rfl (Nat.le_of_ble_eq_true rfl) (Nat.le_of_ble_eq_true rfl) (Nat.le_refl _) (Nat.le_refl _) ?_
  refine dp_blk okX6_dealsSlots 0 (S' := (23, [some (.inr (some 0)), some (.inl v1), some (.inl x)], [.inl x2], (hM s))) rfl ?_
  refine dp_if0 okX6_dealsSlots rfl (fun (c : ¬ x2 = (0 : Int32)) => ?_) (fun (c : x2 = (0 : Int32)) => ?_)
  · have h := dp_ic c h
    refine dp_blk okX6_dealsSlots 0 (S' := (32, [some (.inr (some 0)), some (.inl v1), some (.inl x)], [], (hM s))) rfl ?_
    cases h
    exact hk
  · have h := dp_ip c h
    refine dp_blk okX6_dealsSlots 2 (S' := (17, [some (.inr (some 0)), some (.inl v1), some (.inl (x + (1 : Int32)))], [], (hM s))) rfl ?_
    cases h
    exact hk
def jj_X6_dealsSlots_60 (s : dp_Z) (v1 t0 : Int32) : Option ((dp_Z × Int32) ⊕ dp_Z) := (dp_bd (some (dp_sf s 6 t0)) fun s5 => (some (.inl (s5, (v1 + (1 : Int32))))))
set_option maxHeartbeats 1000000 in
set_option maxRecDepth 20000 in
theorem wj_X6_dealsSlots_60 {post : Option dp_V → dp_H → Prop} {h0 : dp_H} (s : dp_Z) (v1 t0 : Int32) (o : ((dp_Z × Int32) ⊕ dp_Z)) (h : jj_X6_dealsSlots_60 s v1 t0 = some o) (hk : dp_LK (fun x : (dp_Z × Int32) => dp_W 3 mX6_dealsSlots false h0 0 0 post 0 0 (7, [some (.inr (some 0)), some (.inl x.2), none], [], (hM x.1))) (fun x : dp_Z => dp_W 3 mX6_dealsSlots false h0 0 0 post 0 0 (69, [none, none, none], [], (hM x))) o) : dp_W 3 mX6_dealsSlots false h0 0 0 post 0 0 (60, [some (.inr (some 0)), some (.inl v1), none], [.inl t0, .inr (some 0)], (hM s)) := by
  unfold jj_X6_dealsSlots_60 at h
  obtain ⟨s5, hs, h⟩ := dp_bd_inv h
  have hs := Option.some.inj hs
  refine dp_pfe okX6_dealsSlots rfl (by decide) (qhM_0 s) (Nat.le_of_ble_eq_true rfl) ((phM_6 s t0).trans (congrArg hM hs)) ?_
  refine dp_blk okX6_dealsSlots 2 (S' := (7, [some (.inr (some 0)), some (.inl (v1 + (1 : Int32))), none], [], (hM s5))) rfl ?_
  cases h
  exact hk
def jb_X6_dealsSlots_7 (x : (dp_Z × Int32)) : Option ((dp_Z × Int32) ⊕ dp_Z) := (if (x.1.1 0) ≤ x.2 then (some (.inr x.1)) else (dp_bd (dp_loop (jb_X6_dealsSlots_17 x.1 x.2) dp_F (0 : Int32)) fun x3 => (if dp_inb x.2 12 = true then (dp_bd (some (dp_sr x.1 2 (upd (x.1.2 2) (x.2).toNatClampNeg x3))) fun s4 => (if (x3 + (1 : Int32)) ≤ (s4.1 6) then (jj_X6_dealsSlots_60 s4 x.2 (s4.1 6)) else (jj_X6_dealsSlots_60 s4 x.2 (x3 + (1 : Int32))))) else none)))
set_option maxHeartbeats 1000000 in
set_option maxRecDepth 20000 in
theorem wl_X6_dealsSlots_7 {post : Option dp_V → dp_H → Prop} {h0 : dp_H} (x : (dp_Z × Int32)) (o : ((dp_Z × Int32) ⊕ dp_Z)) (h : jb_X6_dealsSlots_7 x = some o) (hk : dp_LK (fun x : (dp_Z × Int32) => dp_W 3 mX6_dealsSlots false h0 0 0 post 0 0 (7, [some (.inr (some 0)), some (.inl x.2), none], [], (hM x.1))) (fun x : dp_Z => dp_W 3 mX6_dealsSlots false h0 0 0 post 0 0 (69, [none, none, none], [], (hM x))) o) : dp_W 3 mX6_dealsSlots false h0 0 0 post 0 0 (7, [some (.inr (some 0)), some (.inl x.2), none], [], (hM x.1)) := by
  unfold jb_X6_dealsSlots_7 at h
  refine dp_blk okX6_dealsSlots 3 (S' := (12, [some (.inr (some 0)), some (.inl x.2), none], [.inl (x.1.1 0), .inl x.2], (hM x.1))) rfl ?_
  refine dp_if okX6_dealsSlots rfl (fun (c : (x.1.1 0) ≤ x.2) => ?_) (fun (c : ¬ (x.1.1 0) ≤ x.2) => ?_)
  · have h := dp_ip c h
    refine dp_blk okX6_dealsSlots 0 (S' := (69, [some (.inr (some 0)), some (.inl x.2), none], [], (hM x.1))) rfl ?_
    cases h
    refine dp_fg [false, false, false] (L' := [none, none, none]) rfl rfl ?_
    exact hk
  · have h := dp_ic c h
    refine dp_blk okX6_dealsSlots 2 (S' := (17, [some (.inr (some 0)), some (.inl x.2), some (.inl (0 : Int32))], [], (hM x.1))) rfl ?_
    obtain ⟨x3, hl, h⟩ := dp_bd_inv h
    refine dp_loopW (wl_X6_dealsSlots_17 x.1 x.2) dp_F (0 : Int32) x3 hl ?_
    show dp_W 3 mX6_dealsSlots false h0 0 0 post 0 0 (32, [some (.inr (some 0)), some (.inl x.2), some (.inl x3)], [], (hM x.1))
    refine dp_blk okX6_dealsSlots 4 (S' := (38, [some (.inr (some 0)), some (.inl x.2), some (.inl x3)], [.inl x3, .inl x.2, .inr (some 3)], (hM x.1))) rfl ?_
    obtain ⟨hi, h⟩ := dp_ite h
    obtain ⟨s4, hs, h⟩ := dp_bd_inv h
    have hs := Option.some.inj hs
    refine dp_iase (g := (x.1.2 2)) okX6_dealsSlots rfl rfl (dp_inb_in hi) ((ahM_2 x.1 _).trans (congrArg hM hs)) ?_
    refine dp_blk okX6_dealsSlots 6 (S' := (47, [some (.inr (some 0)), some (.inl x.2), some (.inl x3)], [.inl (s4.1 6), .inl (x3 + (1 : Int32)), .inr (some 0)], (hM s4))) rfl ?_
    refine dp_if okX6_dealsSlots rfl (fun (c : (x3 + (1 : Int32)) ≤ (s4.1 6)) => ?_) (fun (c : ¬ (x3 + (1 : Int32)) ≤ (s4.1 6)) => ?_)
    · have h := dp_ip c h
      refine dp_blk okX6_dealsSlots 2 (S' := (60, [some (.inr (some 0)), some (.inl x.2), some (.inl x3)], [.inl (s4.1 6), .inr (some 0)], (hM s4))) rfl ?_
      refine dp_fg [true, true, false] (L' := [some (.inr (some 0)), some (.inl x.2), none]) rfl rfl ?_
      exact wj_X6_dealsSlots_60 s4 x.2 (s4.1 6) _ h hk
    · have h := dp_ic c h
      refine dp_blk okX6_dealsSlots 4 (S' := (60, [some (.inr (some 0)), some (.inl x.2), some (.inl x3)], [.inl (x3 + (1 : Int32)), .inr (some 0)], (hM s4))) rfl ?_
      refine dp_fg [true, true, false] (L' := [some (.inr (some 0)), some (.inl x.2), none]) rfl rfl ?_
      exact wj_X6_dealsSlots_60 s4 x.2 (x3 + (1 : Int32)) _ h hk
def j_X6_dealsSlots (s : dp_Z) : Option dp_Z := (dp_bd (some (dp_sf s 6 (0 : Int32))) fun s1 => (dp_bd (dp_loop (jb_X6_dealsSlots_7) dp_F (s1, (0 : Int32))) fun x6 => (some x6)))
set_option maxHeartbeats 1000000 in
set_option maxRecDepth 20000 in
theorem we_X6_dealsSlots {post : Option dp_V → dp_H → Prop} {h0 : dp_H} (s : dp_Z) (o : dp_Z) (h : j_X6_dealsSlots s = some o) (hk : post none (hM o)) : dp_W 3 mX6_dealsSlots false h0 0 0 post 0 0 (0, [some (.inr (some 0)), none, none], [], (hM s)) := by
  unfold j_X6_dealsSlots at h
  refine dp_blk okX6_dealsSlots 2 (S' := (2, [some (.inr (some 0)), none, none], [.inl (0 : Int32), .inr (some 0)], (hM s))) rfl ?_
  obtain ⟨s1, hs, h⟩ := dp_bd_inv h
  have hs := Option.some.inj hs
  refine dp_pfe okX6_dealsSlots rfl (by decide) (qhM_0 s) (Nat.le_of_ble_eq_true rfl) ((phM_6 s (0 : Int32)).trans (congrArg hM hs)) ?_
  refine dp_blk okX6_dealsSlots 2 (S' := (7, [some (.inr (some 0)), some (.inl (0 : Int32)), none], [], (hM s1))) rfl ?_
  obtain ⟨x6, hl, h⟩ := dp_bd_inv h
  refine dp_loopW (wl_X6_dealsSlots_7) dp_F (s1, (0 : Int32)) x6 hl ?_
  show dp_W 3 mX6_dealsSlots false h0 0 0 post 0 0 (69, [none, none, none], [], (hM x6))
  refine dp_blk okX6_dealsSlots 0 (S' := (69, [none, none, none], [], (hM x6))) rfl ?_
  cases h
  exact dp_vret okX6_dealsSlots rfl rfl hk
theorem c_X6_dealsSlots (s : dp_Z) (o : dp_Z) (h : j_X6_dealsSlots s = some o) : dp_C 3 mX6_dealsSlots false [.inr (some 0)] (hM s) 0 0 (dp_R none (hM o)) := dp_C_of okX6_dealsSlots [some (.inr (some 0)), none, none] rfl (Nat.le_of_ble_eq_true rfl) (we_X6_dealsSlots s o h ⟨rfl, rfl⟩)
def jb_X6_begins_11 (x : (dp_Z × Int32)) : Option ((dp_Z × Int32) ⊕ dp_Z) := (if (12 : Int32) ≤ x.2 then (some (.inr x.1)) else (if dp_inb x.2 12 = true then (dp_bd (some (dp_sr x.1 3 (upd (x.1.2 3) (x.2).toNatClampNeg (-9 : Int32)))) fun s3 => (if dp_inb x.2 12 = true then (dp_bd (some (dp_sr s3 4 (upd (s3.2 4) (x.2).toNatClampNeg (-9 : Int32)))) fun s4 => (if dp_inb x.2 12 = true then (dp_bd (some (dp_sr s4 5 (upd (s4.2 5) (x.2).toNatClampNeg ((0 : Int32) &&& 1)))) fun s5 => (some (.inl (s5, (x.2 + (1 : Int32)))))) else none)) else none)) else none))
set_option maxHeartbeats 1000000 in
set_option maxRecDepth 20000 in
theorem wl_X6_begins_11 {post : Option dp_V → dp_H → Prop} {h0 : dp_H} (x : (dp_Z × Int32)) (o : ((dp_Z × Int32) ⊕ dp_Z)) (h : jb_X6_begins_11 x = some o) (hk : dp_LK (fun x : (dp_Z × Int32) => dp_W 4 mX6_begins false h0 0 0 post 0 0 (11, [some (.inr (some 0)), some (.inl x.2)], [], (hM x.1))) (fun x : dp_Z => dp_W 4 mX6_begins false h0 0 0 post 0 0 (46, [some (.inr (some 0)), none], [], (hM x))) o) : dp_W 4 mX6_begins false h0 0 0 post 0 0 (11, [some (.inr (some 0)), some (.inl x.2)], [], (hM x.1)) := by
  unfold jb_X6_begins_11 at h
  refine dp_blk okX6_begins 2 (S' := (14, [some (.inr (some 0)), some (.inl x.2)], [.inl (12 : Int32), .inl x.2], (hM x.1))) rfl ?_
  refine dp_if okX6_begins rfl (fun (c : (12 : Int32) ≤ x.2) => ?_) (fun (c : ¬ (12 : Int32) ≤ x.2) => ?_)
  · have h := dp_ip c h
    refine dp_blk okX6_begins 0 (S' := (46, [some (.inr (some 0)), some (.inl x.2)], [], (hM x.1))) rfl ?_
    cases h
    refine dp_fg [true, false] (L' := [some (.inr (some 0)), none]) rfl rfl ?_
    exact hk
  · have h := dp_ic c h
    refine dp_blk okX6_begins 4 (S' := (24, [some (.inr (some 0)), some (.inl x.2)], [.inl (-9 : Int32), .inl x.2, .inr (some 4)], (hM x.1))) rfl ?_
    obtain ⟨hi, h⟩ := dp_ite h
    obtain ⟨s3, hs, h⟩ := dp_bd_inv h
    have hs := Option.some.inj hs
    refine dp_iase (g := (x.1.2 3)) okX6_begins rfl rfl (dp_inb_in hi) ((ahM_3 x.1 _).trans (congrArg hM hs)) ?_
    refine dp_blk okX6_begins 4 (S' := (32, [some (.inr (some 0)), some (.inl x.2)], [.inl (-9 : Int32), .inl x.2, .inr (some 5)], (hM s3))) rfl ?_
    obtain ⟨hi, h⟩ := dp_ite h
    obtain ⟨s4, hs, h⟩ := dp_bd_inv h
    have hs := Option.some.inj hs
    refine dp_iase (g := (s3.2 4)) okX6_begins rfl rfl (dp_inb_in hi) ((ahM_4 s3 _).trans (congrArg hM hs)) ?_
    refine dp_blk okX6_begins 4 (S' := (39, [some (.inr (some 0)), some (.inl x.2)], [.inl (0 : Int32), .inl x.2, .inr (some 6)], (hM s4))) rfl ?_
    obtain ⟨hi, h⟩ := dp_ite h
    obtain ⟨s5, hs, h⟩ := dp_bd_inv h
    have hs := Option.some.inj hs
    refine dp_base (g := (s4.2 5)) okX6_begins rfl rfl (dp_inb_in hi) ((ahM_5 s4 _).trans (congrArg hM hs)) ?_
    refine dp_blk okX6_begins 2 (S' := (11, [some (.inr (some 0)), some (.inl (x.2 + (1 : Int32)))], [], (hM s5))) rfl ?_
    cases h
    exact hk
def jb_X6_begins_48 (x : (dp_Z × Int32)) : Option ((dp_Z × Int32) ⊕ dp_Z) := (if (Int32.ofNat 48) ≤ x.2 then (some (.inr x.1)) else (if dp_inb x.2 48 = true then (dp_bd (some (dp_sr x.1 6 (upd (x.1.2 6) (x.2).toNatClampNeg (0 : Int32)))) fun s7 => (some (.inl (s7, (x.2 + (1 : Int32)))))) else none))
set_option maxHeartbeats 1000000 in
set_option maxRecDepth 20000 in
theorem wl_X6_begins_48 {post : Option dp_V → dp_H → Prop} {h0 : dp_H} (x : (dp_Z × Int32)) (o : ((dp_Z × Int32) ⊕ dp_Z)) (h : jb_X6_begins_48 x = some o) (hk : dp_LK (fun x : (dp_Z × Int32) => dp_W 4 mX6_begins false h0 0 0 post 0 0 (48, [some (.inr (some 0)), some (.inl x.2)], [], (hM x.1))) (fun x : dp_Z => dp_W 4 mX6_begins false h0 0 0 post 0 0 (70, [some (.inr (some 0)), none], [], (hM x))) o) : dp_W 4 mX6_begins false h0 0 0 post 0 0 (48, [some (.inr (some 0)), some (.inl x.2)], [], (hM x.1)) := by
  unfold jb_X6_begins_48 at h
  refine dp_blk okX6_begins 3 (S' := (53, [some (.inr (some 0)), some (.inl x.2)], [.inr (some 7), .inl x.2], (hM x.1))) rfl ?_
  refine dp_aln okX6_begins rfl rfl ?_
  refine dp_blk okX6_begins 0 (S' := (54, [some (.inr (some 0)), some (.inl x.2)], [.inl (Int32.ofNat 48), .inl x.2], (hM x.1))) rfl ?_
  refine dp_if okX6_begins rfl (fun (c : (Int32.ofNat 48) ≤ x.2) => ?_) (fun (c : ¬ (Int32.ofNat 48) ≤ x.2) => ?_)
  · have h := dp_ip c h
    refine dp_blk okX6_begins 0 (S' := (70, [some (.inr (some 0)), some (.inl x.2)], [], (hM x.1))) rfl ?_
    cases h
    refine dp_fg [true, false] (L' := [some (.inr (some 0)), none]) rfl rfl ?_
    exact hk
  · have h := dp_ic c h
    refine dp_blk okX6_begins 4 (S' := (63, [some (.inr (some 0)), some (.inl x.2)], [.inl (0 : Int32), .inl x.2, .inr (some 7)], (hM x.1))) rfl ?_
    obtain ⟨hi, h⟩ := dp_ite h
    obtain ⟨s7, hs, h⟩ := dp_bd_inv h
    have hs := Option.some.inj hs
    refine dp_iase (g := (x.1.2 6)) okX6_begins rfl rfl (dp_inb_in hi) ((ahM_6 x.1 _).trans (congrArg hM hs)) ?_
    refine dp_blk okX6_begins 2 (S' := (48, [some (.inr (some 0)), some (.inl (x.2 + (1 : Int32)))], [], (hM s7))) rfl ?_
    cases h
    exact hk
def j_X6_begins (s : dp_Z) : Option dp_Z := (dp_bd (j_X6_dealsSlots s) fun x1 => (dp_bd (some (dp_sf x1 7 (0 : Int32))) fun s2 => (dp_bd (dp_loop (jb_X6_begins_11) dp_F (s2, (0 : Int32))) fun x6 => (dp_bd (dp_loop (jb_X6_begins_48) dp_F (x6, (0 : Int32))) fun x8 => (if dp_inb (x8.1 3) 12 = true then (dp_bd (some (dp_sr x8 3 (upd (x8.2 3) ((x8.1 3)).toNatClampNeg (x8.1 4)))) fun s9 => (if dp_inb (s9.1 3) 12 = true then (dp_bd (some (dp_sr s9 4 (upd (s9.2 4) ((s9.1 3)).toNatClampNeg (0 : Int32)))) fun s10 => (some s10)) else none)) else none)))))
set_option maxHeartbeats 1000000 in
set_option maxRecDepth 20000 in
theorem we_X6_begins {post : Option dp_V → dp_H → Prop} {h0 : dp_H} (s : dp_Z) (o : dp_Z) (h : j_X6_begins s = some o) (hk : post none (hM o)) : dp_W 4 mX6_begins false h0 0 0 post 0 0 (0, [some (.inr (some 0)), none], [], (hM s)) := by
  unfold j_X6_begins at h
  refine dp_blk okX6_begins 1 (S' := (1, [some (.inr (some 0)), none], [.inr (some 0)], (hM s))) rfl ?_
  obtain ⟨x1, hc, h⟩ := dp_bd_inv h
  refine dp_cV okX6_begins okX6_dealsSlots (as := []) (r := []) rfl lk_NearLiarsModel_106 npX6_dealsSlots (c_X6_dealsSlots s x1 hc) rfl rfl rfl rfl (Nat.le_of_ble_eq_true rfl) (Nat.le_of_ble_eq_true rfl) (Nat.le_refl _) (Nat.le_refl _) ?_
  refine dp_blk okX6_begins 2 (S' := (6, [some (.inr (some 0)), none], [.inl (0 : Int32), .inr (some 0)], (hM x1))) rfl ?_
  obtain ⟨s2, hs, h⟩ := dp_bd_inv h
  have hs := Option.some.inj hs
  refine dp_pfe okX6_begins rfl (by decide) (qhM_0 x1) (Nat.le_of_ble_eq_true rfl) ((phM_7 x1 (0 : Int32)).trans (congrArg hM hs)) ?_
  refine dp_blk okX6_begins 2 (S' := (11, [some (.inr (some 0)), some (.inl (0 : Int32))], [], (hM s2))) rfl ?_
  obtain ⟨x6, hl, h⟩ := dp_bd_inv h
  refine dp_loopW (wl_X6_begins_11) dp_F (s2, (0 : Int32)) x6 hl ?_
  show dp_W 4 mX6_begins false h0 0 0 post 0 0 (46, [some (.inr (some 0)), none], [], (hM x6))
  refine dp_blk okX6_begins 2 (S' := (48, [some (.inr (some 0)), some (.inl (0 : Int32))], [], (hM x6))) rfl ?_
  obtain ⟨x8, hl, h⟩ := dp_bd_inv h
  refine dp_loopW (wl_X6_begins_48) dp_F (x6, (0 : Int32)) x8 hl ?_
  show dp_W 4 mX6_begins false h0 0 0 post 0 0 (70, [some (.inr (some 0)), none], [], (hM x8))
  refine dp_blk okX6_begins 6 (S' := (82, [some (.inr (some 0)), none], [.inl (x8.1 4), .inl (x8.1 3), .inr (some 4)], (hM x8))) rfl ?_
  obtain ⟨hi, h⟩ := dp_ite h
  obtain ⟨s9, hs, h⟩ := dp_bd_inv h
  have hs := Option.some.inj hs
  refine dp_iase (g := (x8.2 3)) okX6_begins rfl rfl (dp_inb_in hi) ((ahM_3 x8 _).trans (congrArg hM hs)) ?_
  refine dp_blk okX6_begins 5 (S' := (92, [some (.inr (some 0)), none], [.inl (0 : Int32), .inl (s9.1 3), .inr (some 5)], (hM s9))) rfl ?_
  obtain ⟨hi, h⟩ := dp_ite h
  obtain ⟨s10, hs, h⟩ := dp_bd_inv h
  have hs := Option.some.inj hs
  refine dp_iase (g := (s9.2 4)) okX6_begins rfl rfl (dp_inb_in hi) ((ahM_4 s9 _).trans (congrArg hM hs)) ?_
  refine dp_blk okX6_begins 0 (S' := (93, [some (.inr (some 0)), none], [], (hM s10))) rfl ?_
  cases h
  exact dp_vret okX6_begins rfl rfl hk
theorem c_X6_begins (s : dp_Z) (o : dp_Z) (h : j_X6_begins s = some o) : dp_C 4 mX6_begins false [.inr (some 0)] (hM s) 0 0 (dp_R none (hM o)) := dp_C_of okX6_begins [some (.inr (some 0)), none] rfl (Nat.le_of_ble_eq_true rfl) (we_X6_begins s o h ⟨rfl, rfl⟩)
def j_X6_forgets (s : dp_Z) : Option dp_Z := (dp_bd (some (dp_sf s 12 (0 : Int32))) fun s1 => (dp_bd (some (dp_sf s1 13 (0 : Int32))) fun s2 => (dp_bd (j_X6_begins s2) fun x3 => (some x3))))
set_option maxHeartbeats 1000000 in
set_option maxRecDepth 20000 in
theorem we_X6_forgets {post : Option dp_V → dp_H → Prop} {h0 : dp_H} (s : dp_Z) (o : dp_Z) (h : j_X6_forgets s = some o) (hk : post none (hM o)) : dp_W 5 mX6_forgets false h0 0 0 post 0 0 (0, [some (.inr (some 0))], [], (hM s)) := by
  unfold j_X6_forgets at h
  refine dp_blk okX6_forgets 2 (S' := (2, [some (.inr (some 0))], [.inl (0 : Int32), .inr (some 0)], (hM s))) rfl ?_
  obtain ⟨s1, hs, h⟩ := dp_bd_inv h
  have hs := Option.some.inj hs
  refine dp_pfe okX6_forgets rfl (by decide) (qhM_0 s) (Nat.le_of_ble_eq_true rfl) ((phM_12 s (0 : Int32)).trans (congrArg hM hs)) ?_
  refine dp_blk okX6_forgets 2 (S' := (7, [some (.inr (some 0))], [.inl (0 : Int32), .inr (some 0)], (hM s1))) rfl ?_
  obtain ⟨s2, hs, h⟩ := dp_bd_inv h
  have hs := Option.some.inj hs
  refine dp_pfe okX6_forgets rfl (by decide) (qhM_0 s1) (Nat.le_of_ble_eq_true rfl) ((phM_13 s1 (0 : Int32)).trans (congrArg hM hs)) ?_
  refine dp_blk okX6_forgets 1 (S' := (11, [some (.inr (some 0))], [.inr (some 0)], (hM s2))) rfl ?_
  obtain ⟨x3, hc, h⟩ := dp_bd_inv h
  refine dp_cV okX6_forgets okX6_begins (as := []) (r := []) rfl lk_NearLiarsModel_60 npX6_begins (c_X6_begins s2 x3 hc) rfl rfl rfl rfl (Nat.le_of_ble_eq_true rfl) (Nat.le_of_ble_eq_true rfl) (Nat.le_refl _) (Nat.le_refl _) ?_
  refine dp_blk okX6_forgets 0 (S' := (14, [some (.inr (some 0))], [], (hM x3))) rfl ?_
  cases h
  exact dp_vret okX6_forgets rfl rfl hk
theorem c_X6_forgets (s : dp_Z) (o : dp_Z) (h : j_X6_forgets s = some o) : dp_C 5 mX6_forgets false [.inr (some 0)] (hM s) 0 0 (dp_R none (hM o)) := dp_C_of okX6_forgets [some (.inr (some 0))] rfl (Nat.le_of_ble_eq_true rfl) (we_X6_forgets s o h ⟨rfl, rfl⟩)
def j_X6_lays (s : dp_Z) (v1 v2 v3 : Int32) : Option dp_Z := (dp_bd (some (dp_sf s 0 v1)) fun s1 => (dp_bd (some (dp_sf s1 1 v2)) fun s2 => (dp_bd (some (dp_sf s2 2 v3)) fun s3 => (dp_bd (some (dp_sf s3 3 (0 : Int32))) fun s4 => (dp_bd (some (dp_sf s4 11 (0 : Int32))) fun s5 => (dp_bd (dp_loop (jb_X6_lays_28) dp_F (s5, (0 : Int32))) fun x8 => (dp_bd (j_X6_forgets x8) fun x9 => (some x9))))))))
set_option maxHeartbeats 1000000 in
set_option maxRecDepth 20000 in
theorem we_X6_lays {post : Option dp_V → dp_H → Prop} {h0 : dp_H} (s : dp_Z) (v1 v2 v3 : Int32) (o : dp_Z) (h : j_X6_lays s v1 v2 v3 = some o) (hk : post none (hM o)) : dp_W 6 mX6_lays false h0 0 0 post 0 0 (0, [some (.inr (some 0)), some (.inl v1), some (.inl v2), some (.inl v3), none], [], (hM s)) := by
  unfold j_X6_lays at h
  refine dp_blk okX6_lays 2 (S' := (2, [some (.inr (some 0)), some (.inl v1), some (.inl v2), some (.inl v3), none], [.inl v1, .inr (some 0)], (hM s))) rfl ?_
  obtain ⟨s1, hs, h⟩ := dp_bd_inv h
  have hs := Option.some.inj hs
  refine dp_pfe okX6_lays rfl (by decide) (qhM_0 s) (Nat.le_of_ble_eq_true rfl) ((phM_0 s v1).trans (congrArg hM hs)) ?_
  refine dp_blk okX6_lays 2 (S' := (7, [some (.inr (some 0)), some (.inl v1), some (.inl v2), some (.inl v3), none], [.inl v2, .inr (some 0)], (hM s1))) rfl ?_
  obtain ⟨s2, hs, h⟩ := dp_bd_inv h
  have hs := Option.some.inj hs
  refine dp_pfe okX6_lays rfl (by decide) (qhM_0 s1) (Nat.le_of_ble_eq_true rfl) ((phM_1 s1 v2).trans (congrArg hM hs)) ?_
  refine dp_blk okX6_lays 2 (S' := (12, [some (.inr (some 0)), some (.inl v1), some (.inl v2), some (.inl v3), none], [.inl v3, .inr (some 0)], (hM s2))) rfl ?_
  obtain ⟨s3, hs, h⟩ := dp_bd_inv h
  have hs := Option.some.inj hs
  refine dp_pfe okX6_lays rfl (by decide) (qhM_0 s2) (Nat.le_of_ble_eq_true rfl) ((phM_2 s2 v3).trans (congrArg hM hs)) ?_
  refine dp_blk okX6_lays 2 (S' := (17, [some (.inr (some 0)), some (.inl v1), some (.inl v2), some (.inl v3), none], [.inl (0 : Int32), .inr (some 0)], (hM s3))) rfl ?_
  obtain ⟨s4, hs, h⟩ := dp_bd_inv h
  have hs := Option.some.inj hs
  refine dp_pfe okX6_lays rfl (by decide) (qhM_0 s3) (Nat.le_of_ble_eq_true rfl) ((phM_3 s3 (0 : Int32)).trans (congrArg hM hs)) ?_
  refine dp_blk okX6_lays 2 (S' := (22, [some (.inr (some 0)), some (.inl v1), some (.inl v2), some (.inl v3), none], [.inl (0 : Int32), .inr (some 0)], (hM s4))) rfl ?_
  obtain ⟨s5, hs, h⟩ := dp_bd_inv h
  have hs := Option.some.inj hs
  refine dp_pfe okX6_lays rfl (by decide) (qhM_0 s4) (Nat.le_of_ble_eq_true rfl) ((phM_11 s4 (0 : Int32)).trans (congrArg hM hs)) ?_
  refine dp_blk okX6_lays 2 (S' := (28, [some (.inr (some 0)), some (.inl v1), some (.inl v2), some (.inl v3), some (.inl (0 : Int32))], [], (hM s5))) rfl ?_
  refine dp_fg [true, false, false, false, true] (L' := [some (.inr (some 0)), none, none, none, some (.inl (0 : Int32))]) rfl rfl ?_
  obtain ⟨x8, hl, h⟩ := dp_bd_inv h
  refine dp_loopW (wl_X6_lays_28) dp_F (s5, (0 : Int32)) x8 hl ?_
  show dp_W 6 mX6_lays false h0 0 0 post 0 0 (58, [some (.inr (some 0)), none, none, none, none], [], (hM x8))
  refine dp_blk okX6_lays 1 (S' := (59, [some (.inr (some 0)), none, none, none, none], [.inr (some 0)], (hM x8))) rfl ?_
  obtain ⟨x9, hc, h⟩ := dp_bd_inv h
  refine dp_cV okX6_lays okX6_forgets (as := []) (r := []) rfl lk_NearLiarsModel_73 npX6_forgets (c_X6_forgets x8 x9 hc) rfl rfl rfl rfl (Nat.le_of_ble_eq_true rfl) (Nat.le_of_ble_eq_true rfl) (Nat.le_refl _) (Nat.le_refl _) ?_
  refine dp_blk okX6_lays 0 (S' := (62, [some (.inr (some 0)), none, none, none, none], [], (hM x9))) rfl ?_
  cases h
  exact dp_vret okX6_lays rfl rfl hk
theorem c_X6_lays (s : dp_Z) (v1 v2 v3 : Int32) (o : dp_Z) (h : j_X6_lays s v1 v2 v3 = some o) : dp_C 6 mX6_lays false [.inr (some 0), .inl v1, .inl v2, .inl v3] (hM s) 0 0 (dp_R none (hM o)) := dp_C_of okX6_lays [some (.inr (some 0)), some (.inl v1), some (.inl v2), some (.inl v3), none] rfl (Nat.le_of_ble_eq_true rfl) (we_X6_lays s v1 v2 v3 o h ⟨rfl, rfl⟩)
def j_X6_net (s : dp_Z) (v1 : Int32) : Option (Int32 × dp_Z) := (dp_bd (j_X6_within v1 (2 : Int32) (12 : Int32)) fun x1 => (if x1 = (0 : Int32) then (some ((-2 : Int32), s)) else (dp_bd (j_X6_lays s v1 v1 (1 : Int32)) fun x2 => (some ((x2.1 0), x2)))))
set_option maxHeartbeats 1000000 in
set_option maxRecDepth 20000 in
theorem we_X6_net {post : Option dp_V → dp_H → Prop} {h0 : dp_H} (s : dp_Z) (v1 : Int32) (o : (Int32 × dp_Z)) (h : j_X6_net s v1 = some o) (hk : post (some (.inl o.1)) (hM o.2)) : dp_W 7 mX6_net false h0 0 0 post 0 0 (0, [some (.inr (some 0)), some (.inl v1)], [], (hM s)) := by
  unfold j_X6_net at h
  refine dp_blk okX6_net 3 (S' := (4, [some (.inr (some 0)), some (.inl v1)], [.inl (12 : Int32), .inl (2 : Int32), .inl v1], (hM s))) rfl ?_
  obtain ⟨x1, hc, h⟩ := dp_bd_inv h
  refine dp_cS okX6_net okX6_within (as := [.inl v1, .inl (2 : Int32), .inl (12 : Int32)]) (r := []) rfl lk_NearLiarsModel_63 npX6_within (c_X6_within (hM s) v1 (2 : Int32) (12 : Int32) x1 hc) rfl (Nat.le_of_ble_eq_true rfl) (Nat.le_of_ble_eq_true rfl) (Nat.le_refl _) (Nat.le_refl _) ?_
  refine dp_blk okX6_net 0 (S' := (7, [some (.inr (some 0)), some (.inl v1)], [.inl x1], (hM s))) rfl ?_
  refine dp_if0 okX6_net rfl (fun (c : ¬ x1 = (0 : Int32)) => ?_) (fun (c : x1 = (0 : Int32)) => ?_)
  · have h := dp_ic c h
    refine dp_blk okX6_net 4 (S' := (17, [some (.inr (some 0)), some (.inl v1)], [.inl (1 : Int32), .inl v1, .inl v1, .inr (some 0)], (hM s))) rfl ?_
    obtain ⟨x2, hc, h⟩ := dp_bd_inv h
    refine dp_cV okX6_net okX6_lays (as := [.inl v1, .inl v1, .inl (1 : Int32)]) (r := []) rfl lk_NearLiarsModel_82 npX6_lays (c_X6_lays s v1 v1 (1 : Int32) x2 hc) rfl rfl rfl rfl (Nat.le_of_ble_eq_true rfl) (Nat.le_of_ble_eq_true rfl) (Nat.le_refl _) (Nat.le_refl _) ?_
    refine dp_blk okX6_net 2 (S' := (24, [some (.inr (some 0)), some (.inl v1)], [.inl (x2.1 0)], (hM x2))) rfl ?_
    cases h
    exact dp_iret okX6_net rfl rfl hk
  · have h := dp_ip c h
    refine dp_blk okX6_net 1 (S' := (12, [some (.inr (some 0)), some (.inl v1)], [.inl (-2 : Int32)], (hM s))) rfl ?_
    cases h
    exact dp_iret okX6_net rfl rfl hk
theorem c_X6_net (s : dp_Z) (v1 : Int32) (o : (Int32 × dp_Z)) (h : j_X6_net s v1 = some o) : dp_C 7 mX6_net false [.inr (some 0), .inl v1] (hM s) 0 0 (dp_R (some (.inl o.1)) (hM o.2)) := dp_C_of okX6_net [some (.inr (some 0)), some (.inl v1)] rfl (Nat.le_of_ble_eq_true rfl) (we_X6_net s v1 o h ⟨rfl, rfl⟩)
def jj_X6_grid_144 (s : dp_Z) (v1 v3 v4 v5 t0 t1 t2 : Int32) : Option ((dp_Z × Int32) ⊕ dp_Z) := (if dp_inb t2 12 = true then (dp_bd (some (dp_sr s 0 (upd (s.2 0) (t2).toNatClampNeg (t1 ||| t0)))) fun s6 => (some (.inl (s6, (v5 + (1 : Int32)))))) else none)
set_option maxHeartbeats 1000000 in
set_option maxRecDepth 20000 in
theorem wj_X6_grid_144 {post : Option dp_V → dp_H → Prop} {h0 : dp_H} (s : dp_Z) (v1 v3 v4 v5 t0 t1 t2 : Int32) (o : ((dp_Z × Int32) ⊕ dp_Z)) (h : jj_X6_grid_144 s v1 v3 v4 v5 t0 t1 t2 = some o) (hk : dp_LK (fun x : (dp_Z × Int32) => dp_W 7 mX6_grid false h0 0 0 post 0 0 (68, [some (.inr (some 0)), some (.inl v1), none, some (.inl v3), some (.inl v4), some (.inl x.2), none, none], [], (hM x.1))) (fun x : dp_Z => dp_W 7 mX6_grid false h0 0 0 post 0 0 (152, [some (.inr (some 0)), some (.inl v1), none, some (.inl v3), some (.inl v4), none, none, none], [], (hM x))) o) : dp_W 7 mX6_grid false h0 0 0 post 0 0 (144, [some (.inr (some 0)), some (.inl v1), none, some (.inl v3), some (.inl v4), some (.inl v5), none, none], [.inl t0, .inl t1, .inl t2, .inr (some 1)], (hM s)) := by
  unfold jj_X6_grid_144 at h
  refine dp_blk okX6_grid 1 (S' := (145, [some (.inr (some 0)), some (.inl v1), none, some (.inl v3), some (.inl v4), some (.inl v5), none, none], [.inl (t1 ||| t0), .inl t2, .inr (some 1)], (hM s))) rfl ?_
  obtain ⟨hi, h⟩ := dp_ite h
  obtain ⟨s6, hs, h⟩ := dp_bd_inv h
  have hs := Option.some.inj hs
  refine dp_iase (g := (s.2 0)) okX6_grid rfl rfl (dp_inb_in hi) ((ahM_0 s _).trans (congrArg hM hs)) ?_
  refine dp_blk okX6_grid 2 (S' := (68, [some (.inr (some 0)), some (.inl v1), none, some (.inl v3), some (.inl v4), some (.inl (v5 + (1 : Int32))), none, none], [], (hM s6))) rfl ?_
  cases h
  exact hk
def jj_X6_grid_143 (s : dp_Z) (v1 v3 v4 v5 t0 t1 : Int32) : Option ((dp_Z × Int32) ⊕ dp_Z) := (jj_X6_grid_144 s v1 v3 v4 v5 (0 : Int32) t0 t1)
set_option maxHeartbeats 1000000 in
set_option maxRecDepth 20000 in
theorem wj_X6_grid_143 {post : Option dp_V → dp_H → Prop} {h0 : dp_H} (s : dp_Z) (v1 v3 v4 v5 t0 t1 : Int32) (o : ((dp_Z × Int32) ⊕ dp_Z)) (h : jj_X6_grid_143 s v1 v3 v4 v5 t0 t1 = some o) (hk : dp_LK (fun x : (dp_Z × Int32) => dp_W 7 mX6_grid false h0 0 0 post 0 0 (68, [some (.inr (some 0)), some (.inl v1), none, some (.inl v3), some (.inl v4), some (.inl x.2), none, none], [], (hM x.1))) (fun x : dp_Z => dp_W 7 mX6_grid false h0 0 0 post 0 0 (152, [some (.inr (some 0)), some (.inl v1), none, some (.inl v3), some (.inl v4), none, none, none], [], (hM x))) o) : dp_W 7 mX6_grid false h0 0 0 post 0 0 (143, [some (.inr (some 0)), some (.inl v1), none, some (.inl v3), some (.inl v4), some (.inl v5), none, none], [.inl t0, .inl t1, .inr (some 1)], (hM s)) := by
  unfold jj_X6_grid_143 at h
  refine dp_blk okX6_grid 1 (S' := (144, [some (.inr (some 0)), some (.inl v1), none, some (.inl v3), some (.inl v4), some (.inl v5), none, none], [.inl (0 : Int32), .inl t0, .inl t1, .inr (some 1)], (hM s))) rfl ?_
  exact wj_X6_grid_144 s v1 v3 v4 v5 (0 : Int32) t0 t1 _ h hk
def jb_X6_grid_68 (v1 v3 v4 : Int32) (x : (dp_Z × Int32)) : Option ((dp_Z × Int32) ⊕ dp_Z) := (if (x.1.1 0) ≤ x.2 then (some (.inr x.1)) else (if v1 = 0 then none else (if v1 = 0 then none else (if v1 = 0 then none else (if v1 = 0 then none else (if dp_inb v4 12 = true then (if v4 = x.2 then (jj_X6_grid_143 x.1 v1 v3 v4 x.2 ((x.1.2 0) (v4).toNatClampNeg) v4) else (dp_bd (j_X6_within ((v4 - v4 / v1 * v1) - (x.2 - x.2 / v1 * v1)) (-v3) v3) fun x7 => (if x7 = (0 : Int32) then (jj_X6_grid_143 x.1 v1 v3 v4 x.2 ((x.1.2 0) (v4).toNatClampNeg) v4) else (dp_bd (j_X6_within ((v4 / v1) - (x.2 / v1)) (-v3) v3) fun x8 => (if x8 = (0 : Int32) then (jj_X6_grid_143 x.1 v1 v3 v4 x.2 ((x.1.2 0) (v4).toNatClampNeg) v4) else (jj_X6_grid_144 x.1 v1 v3 v4 x.2 ((1 : Int32) <<< (x.2 &&& 31)) ((x.1.2 0) (v4).toNatClampNeg) v4)))))) else none))))))
set_option maxHeartbeats 1000000 in
set_option maxRecDepth 20000 in
theorem wl_X6_grid_68 {post : Option dp_V → dp_H → Prop} {h0 : dp_H} (v1 v3 v4 : Int32) (x : (dp_Z × Int32)) (o : ((dp_Z × Int32) ⊕ dp_Z)) (h : jb_X6_grid_68 v1 v3 v4 x = some o) (hk : dp_LK (fun x : (dp_Z × Int32) => dp_W 7 mX6_grid false h0 0 0 post 0 0 (68, [some (.inr (some 0)), some (.inl v1), none, some (.inl v3), some (.inl v4), some (.inl x.2), none, none], [], (hM x.1))) (fun x : dp_Z => dp_W 7 mX6_grid false h0 0 0 post 0 0 (152, [some (.inr (some 0)), some (.inl v1), none, some (.inl v3), some (.inl v4), none, none, none], [], (hM x))) o) : dp_W 7 mX6_grid false h0 0 0 post 0 0 (68, [some (.inr (some 0)), some (.inl v1), none, some (.inl v3), some (.inl v4), some (.inl x.2), none, none], [], (hM x.1)) := by
  unfold jb_X6_grid_68 at h
  refine dp_blk okX6_grid 3 (S' := (74, [some (.inr (some 0)), some (.inl v1), none, some (.inl v3), some (.inl v4), some (.inl x.2), none, none], [.inl (x.1.1 0), .inl x.2], (hM x.1))) rfl ?_
  refine dp_if okX6_grid rfl (fun (c : (x.1.1 0) ≤ x.2) => ?_) (fun (c : ¬ (x.1.1 0) ≤ x.2) => ?_)
  · have h := dp_ip c h
    refine dp_blk okX6_grid 0 (S' := (152, [some (.inr (some 0)), some (.inl v1), none, some (.inl v3), some (.inl v4), some (.inl x.2), none, none], [], (hM x.1))) rfl ?_
    cases h
    refine dp_fg [true, true, false, true, true, false, false, false] (L' := [some (.inr (some 0)), some (.inl v1), none, some (.inl v3), some (.inl v4), none, none, none]) rfl rfl ?_
    exact hk
  · have h := dp_ic c h
    refine dp_blk okX6_grid 2 (S' := (80, [some (.inr (some 0)), some (.inl v1), none, some (.inl v3), some (.inl v4), some (.inl x.2), none, none], [.inl v1, .inl v4], (hM x.1))) rfl ?_
    obtain ⟨hi, h⟩ := dp_ite0 h
    refine dp_irem okX6_grid rfl hi ?_
    refine dp_blk okX6_grid 2 (S' := (84, [some (.inr (some 0)), some (.inl v1), none, some (.inl v3), some (.inl v4), some (.inl x.2), none, none], [.inl v1, .inl x.2, .inl (v4 - v4 / v1 * v1)], (hM x.1))) rfl ?_
    obtain ⟨hi, h⟩ := dp_ite0 h
    refine dp_irem okX6_grid rfl hi ?_
    refine dp_blk okX6_grid 4 (S' := (91, [some (.inr (some 0)), some (.inl v1), none, some (.inl v3), some (.inl v4), some (.inl x.2), some (.inl ((v4 - v4 / v1 * v1) - (x.2 - x.2 / v1 * v1))), none], [.inl v1, .inl v4], (hM x.1))) rfl ?_
    obtain ⟨hi, h⟩ := dp_ite0 h
    refine dp_idiv okX6_grid rfl hi ?_
    refine dp_blk okX6_grid 2 (S' := (95, [some (.inr (some 0)), some (.inl v1), none, some (.inl v3), some (.inl v4), some (.inl x.2), some (.inl ((v4 - v4 / v1 * v1) - (x.2 - x.2 / v1 * v1))), none], [.inl v1, .inl x.2, .inl (v4 / v1)], (hM x.1))) rfl ?_
    obtain ⟨hi, h⟩ := dp_ite0 h
    refine dp_idiv okX6_grid rfl hi ?_
    refine dp_blk okX6_grid 6 (S' := (106, [some (.inr (some 0)), some (.inl v1), none, some (.inl v3), some (.inl v4), some (.inl x.2), some (.inl ((v4 - v4 / v1 * v1) - (x.2 - x.2 / v1 * v1))), some (.inl ((v4 / v1) - (x.2 / v1)))], [.inl v4, .inr (some 1), .inl v4, .inr (some 1)], (hM x.1))) rfl ?_
    obtain ⟨hi, h⟩ := dp_ite h
    refine dp_ial (g := (x.1.2 0)) okX6_grid rfl rfl (dp_inb_in hi) ?_
    refine dp_blk okX6_grid 2 (S' := (111, [some (.inr (some 0)), some (.inl v1), none, some (.inl v3), some (.inl v4), some (.inl x.2), some (.inl ((v4 - v4 / v1 * v1) - (x.2 - x.2 / v1 * v1))), some (.inl ((v4 / v1) - (x.2 / v1)))], [.inl x.2, .inl v4, .inl ((x.1.2 0) (v4).toNatClampNeg), .inl v4, .inr (some 1)], (hM x.1))) rfl ?_
    refine dp_if okX6_grid rfl (fun (c : v4 = x.2) => ?_) (fun (c : ¬ v4 = x.2) => ?_)
    · have h := dp_ip c h
      refine dp_blk okX6_grid 0 (S' := (143, [some (.inr (some 0)), some (.inl v1), none, some (.inl v3), some (.inl v4), some (.inl x.2), some (.inl ((v4 - v4 / v1 * v1) - (x.2 - x.2 / v1 * v1))), some (.inl ((v4 / v1) - (x.2 / v1)))], [.inl ((x.1.2 0) (v4).toNatClampNeg), .inl v4, .inr (some 1)], (hM x.1))) rfl ?_
      refine dp_fg [true, true, false, true, true, true, false, false] (L' := [some (.inr (some 0)), some (.inl v1), none, some (.inl v3), some (.inl v4), some (.inl x.2), none, none]) rfl rfl ?_
      exact wj_X6_grid_143 x.1 v1 v3 v4 x.2 ((x.1.2 0) (v4).toNatClampNeg) v4 _ h hk
    · have h := dp_ic c h
      refine dp_blk okX6_grid 4 (S' := (119, [some (.inr (some 0)), some (.inl v1), none, some (.inl v3), some (.inl v4), some (.inl x.2), some (.inl ((v4 - v4 / v1 * v1) - (x.2 - x.2 / v1 * v1))), some (.inl ((v4 / v1) - (x.2 / v1)))], [.inl v3, .inl (-v3), .inl ((v4 - v4 / v1 * v1) - (x.2 - x.2 / v1 * v1)), .inl ((x.1.2 0) (v4).toNatClampNeg), .inl v4, .inr (some 1)], (hM x.1))) rfl ?_
      obtain ⟨x7, hc, h⟩ := dp_bd_inv h
      refine dp_cS okX6_grid okX6_within (as := [.inl ((v4 - v4 / v1 * v1) - (x.2 - x.2 / v1 * v1)), .inl (-v3), .inl v3]) (r := [.inl ((x.1.2 0) (v4).toNatClampNeg), .inl v4, .inr (some 1)]) rfl lk_NearLiarsModel_63 npX6_within (c_X6_within (hM x.1) ((v4 - v4 / v1 * v1) - (x.2 - x.2 / v1 * v1)) (-v3) v3 x7 hc) rfl (Nat.le_of_ble_eq_true rfl) (Nat.le_of_ble_eq_true rfl) (Nat.le_refl _) (Nat.le_refl _) ?_
      refine dp_blk okX6_grid 0 (S' := (122, [some (.inr (some 0)), some (.inl v1), none, some (.inl v3), some (.inl v4), some (.inl x.2), some (.inl ((v4 - v4 / v1 * v1) - (x.2 - x.2 / v1 * v1))), some (.inl ((v4 / v1) - (x.2 / v1)))], [.inl x7, .inl ((x.1.2 0) (v4).toNatClampNeg), .inl v4, .inr (some 1)], (hM x.1))) rfl ?_
      refine dp_if0 okX6_grid rfl (fun (c : x7 = (0 : Int32)) => ?_) (fun (c : ¬ x7 = (0 : Int32)) => ?_)
      · have h := dp_ip c h
        refine dp_blk okX6_grid 0 (S' := (143, [some (.inr (some 0)), some (.inl v1), none, some (.inl v3), some (.inl v4), some (.inl x.2), some (.inl ((v4 - v4 / v1 * v1) - (x.2 - x.2 / v1 * v1))), some (.inl ((v4 / v1) - (x.2 / v1)))], [.inl ((x.1.2 0) (v4).toNatClampNeg), .inl v4, .inr (some 1)], (hM x.1))) rfl ?_
        refine dp_fg [true, true, false, true, true, true, false, false] (L' := [some (.inr (some 0)), some (.inl v1), none, some (.inl v3), some (.inl v4), some (.inl x.2), none, none]) rfl rfl ?_
        exact wj_X6_grid_143 x.1 v1 v3 v4 x.2 ((x.1.2 0) (v4).toNatClampNeg) v4 _ h hk
      · have h := dp_ic c h
        refine dp_blk okX6_grid 4 (S' := (130, [some (.inr (some 0)), some (.inl v1), none, some (.inl v3), some (.inl v4), some (.inl x.2), some (.inl ((v4 - v4 / v1 * v1) - (x.2 - x.2 / v1 * v1))), some (.inl ((v4 / v1) - (x.2 / v1)))], [.inl v3, .inl (-v3), .inl ((v4 / v1) - (x.2 / v1)), .inl ((x.1.2 0) (v4).toNatClampNeg), .inl v4, .inr (some 1)], (hM x.1))) rfl ?_
        obtain ⟨x8, hc, h⟩ := dp_bd_inv h
        refine dp_cS okX6_grid okX6_within (as := [.inl ((v4 / v1) - (x.2 / v1)), .inl (-v3), .inl v3]) (r := [.inl ((x.1.2 0) (v4).toNatClampNeg), .inl v4, .inr (some 1)]) rfl lk_NearLiarsModel_63 npX6_within (c_X6_within (hM x.1) ((v4 / v1) - (x.2 / v1)) (-v3) v3 x8 hc) rfl (Nat.le_of_ble_eq_true rfl) (Nat.le_of_ble_eq_true rfl) (Nat.le_refl _) (Nat.le_refl _) ?_
        refine dp_blk okX6_grid 0 (S' := (133, [some (.inr (some 0)), some (.inl v1), none, some (.inl v3), some (.inl v4), some (.inl x.2), some (.inl ((v4 - v4 / v1 * v1) - (x.2 - x.2 / v1 * v1))), some (.inl ((v4 / v1) - (x.2 / v1)))], [.inl x8, .inl ((x.1.2 0) (v4).toNatClampNeg), .inl v4, .inr (some 1)], (hM x.1))) rfl ?_
        refine dp_if0 okX6_grid rfl (fun (c : x8 = (0 : Int32)) => ?_) (fun (c : ¬ x8 = (0 : Int32)) => ?_)
        · have h := dp_ip c h
          refine dp_blk okX6_grid 0 (S' := (143, [some (.inr (some 0)), some (.inl v1), none, some (.inl v3), some (.inl v4), some (.inl x.2), some (.inl ((v4 - v4 / v1 * v1) - (x.2 - x.2 / v1 * v1))), some (.inl ((v4 / v1) - (x.2 / v1)))], [.inl ((x.1.2 0) (v4).toNatClampNeg), .inl v4, .inr (some 1)], (hM x.1))) rfl ?_
          refine dp_fg [true, true, false, true, true, true, false, false] (L' := [some (.inr (some 0)), some (.inl v1), none, some (.inl v3), some (.inl v4), some (.inl x.2), none, none]) rfl rfl ?_
          exact wj_X6_grid_143 x.1 v1 v3 v4 x.2 ((x.1.2 0) (v4).toNatClampNeg) v4 _ h hk
        · have h := dp_ic c h
          refine dp_blk okX6_grid 4 (S' := (144, [some (.inr (some 0)), some (.inl v1), none, some (.inl v3), some (.inl v4), some (.inl x.2), some (.inl ((v4 - v4 / v1 * v1) - (x.2 - x.2 / v1 * v1))), some (.inl ((v4 / v1) - (x.2 / v1)))], [.inl ((1 : Int32) <<< (x.2 &&& 31)), .inl ((x.1.2 0) (v4).toNatClampNeg), .inl v4, .inr (some 1)], (hM x.1))) rfl ?_
          refine dp_fg [true, true, false, true, true, true, false, false] (L' := [some (.inr (some 0)), some (.inl v1), none, some (.inl v3), some (.inl v4), some (.inl x.2), none, none]) rfl rfl ?_
          exact wj_X6_grid_144 x.1 v1 v3 v4 x.2 ((1 : Int32) <<< (x.2 &&& 31)) ((x.1.2 0) (v4).toNatClampNeg) v4 _ h hk
def jb_X6_grid_56 (v1 v3 : Int32) (x : (dp_Z × Int32)) : Option ((dp_Z × Int32) ⊕ dp_Z) := (if (x.1.1 0) ≤ x.2 then (some (.inr x.1)) else (dp_bd (dp_loop (jb_X6_grid_68 v1 v3 x.2) dp_F (x.1, (0 : Int32))) fun x9 => (some (.inl (x9, (x.2 + (1 : Int32)))))))
set_option maxHeartbeats 1000000 in
set_option maxRecDepth 20000 in
theorem wl_X6_grid_56 {post : Option dp_V → dp_H → Prop} {h0 : dp_H} (v1 v3 : Int32) (x : (dp_Z × Int32)) (o : ((dp_Z × Int32) ⊕ dp_Z)) (h : jb_X6_grid_56 v1 v3 x = some o) (hk : dp_LK (fun x : (dp_Z × Int32) => dp_W 7 mX6_grid false h0 0 0 post 0 0 (56, [some (.inr (some 0)), some (.inl v1), none, some (.inl v3), some (.inl x.2), none, none, none], [], (hM x.1))) (fun x : dp_Z => dp_W 7 mX6_grid false h0 0 0 post 0 0 (158, [some (.inr (some 0)), none, none, none, none, none, none, none], [], (hM x))) o) : dp_W 7 mX6_grid false h0 0 0 post 0 0 (56, [some (.inr (some 0)), some (.inl v1), none, some (.inl v3), some (.inl x.2), none, none, none], [], (hM x.1)) := by
  unfold jb_X6_grid_56 at h
  refine dp_blk okX6_grid 3 (S' := (62, [some (.inr (some 0)), some (.inl v1), none, some (.inl v3), some (.inl x.2), none, none, none], [.inl (x.1.1 0), .inl x.2], (hM x.1))) rfl ?_
  refine dp_if okX6_grid rfl (fun (c : (x.1.1 0) ≤ x.2) => ?_) (fun (c : ¬ (x.1.1 0) ≤ x.2) => ?_)
  · have h := dp_ip c h
    refine dp_blk okX6_grid 0 (S' := (158, [some (.inr (some 0)), some (.inl v1), none, some (.inl v3), some (.inl x.2), none, none, none], [], (hM x.1))) rfl ?_
    cases h
    refine dp_fg [true, false, false, false, false, false, false, false] (L' := [some (.inr (some 0)), none, none, none, none, none, none, none]) rfl rfl ?_
    exact hk
  · have h := dp_ic c h
    refine dp_blk okX6_grid 2 (S' := (68, [some (.inr (some 0)), some (.inl v1), none, some (.inl v3), some (.inl x.2), some (.inl (0 : Int32)), none, none], [], (hM x.1))) rfl ?_
    obtain ⟨x9, hl, h⟩ := dp_bd_inv h
    refine dp_loopW (wl_X6_grid_68 v1 v3 x.2) dp_F (x.1, (0 : Int32)) x9 hl ?_
    show dp_W 7 mX6_grid false h0 0 0 post 0 0 (152, [some (.inr (some 0)), some (.inl v1), none, some (.inl v3), some (.inl x.2), none, none, none], [], (hM x9))
    refine dp_blk okX6_grid 2 (S' := (56, [some (.inr (some 0)), some (.inl v1), none, some (.inl v3), some (.inl (x.2 + (1 : Int32))), none, none, none], [], (hM x9))) rfl ?_
    cases h
    exact hk
def j_X6_grid (s : dp_Z) (v1 v2 v3 : Int32) : Option (Int32 × dp_Z) := (dp_bd (j_X6_within v1 (1 : Int32) (12 : Int32)) fun x1 => (if x1 = (0 : Int32) then (some ((-2 : Int32), s)) else (dp_bd (j_X6_within v2 (1 : Int32) (12 : Int32)) fun x2 => (if x2 = (0 : Int32) then (some ((-2 : Int32), s)) else (dp_bd (j_X6_within (v1 * v2) (2 : Int32) (12 : Int32)) fun x3 => (if x3 = (0 : Int32) then (some ((-2 : Int32), s)) else (dp_bd (j_X6_within v3 (1 : Int32) (3 : Int32)) fun x4 => (if x4 = (0 : Int32) then (some ((-2 : Int32), s)) else (dp_bd (j_X6_lays s (v1 * v2) v1 v2) fun x5 => (dp_bd (dp_loop (jb_X6_grid_56 v1 v3) dp_F (x5, (0 : Int32))) fun x10 => (dp_bd (j_X6_begins x10) fun x11 => (some ((x11.1 0), x11)))))))))))))
set_option maxHeartbeats 1000000 in
set_option maxRecDepth 20000 in
theorem we_X6_grid {post : Option dp_V → dp_H → Prop} {h0 : dp_H} (s : dp_Z) (v1 v2 v3 : Int32) (o : (Int32 × dp_Z)) (h : j_X6_grid s v1 v2 v3 = some o) (hk : post (some (.inl o.1)) (hM o.2)) : dp_W 7 mX6_grid false h0 0 0 post 0 0 (0, [some (.inr (some 0)), some (.inl v1), some (.inl v2), some (.inl v3), none, none, none, none], [], (hM s)) := by
  unfold j_X6_grid at h
  refine dp_blk okX6_grid 3 (S' := (4, [some (.inr (some 0)), some (.inl v1), some (.inl v2), some (.inl v3), none, none, none, none], [.inl (12 : Int32), .inl (1 : Int32), .inl v1], (hM s))) rfl ?_
  obtain ⟨x1, hc, h⟩ := dp_bd_inv h
  refine dp_cS okX6_grid okX6_within (as := [.inl v1, .inl (1 : Int32), .inl (12 : Int32)]) (r := []) rfl lk_NearLiarsModel_63 npX6_within (c_X6_within (hM s) v1 (1 : Int32) (12 : Int32) x1 hc) rfl (Nat.le_of_ble_eq_true rfl) (Nat.le_of_ble_eq_true rfl) (Nat.le_refl _) (Nat.le_refl _) ?_
  refine dp_blk okX6_grid 0 (S' := (7, [some (.inr (some 0)), some (.inl v1), some (.inl v2), some (.inl v3), none, none, none, none], [.inl x1], (hM s))) rfl ?_
  refine dp_if0 okX6_grid rfl (fun (c : x1 = (0 : Int32)) => ?_) (fun (c : ¬ x1 = (0 : Int32)) => ?_)
  · have h := dp_ip c h
    refine dp_blk okX6_grid 1 (S' := (43, [some (.inr (some 0)), some (.inl v1), some (.inl v2), some (.inl v3), none, none, none, none], [.inl (-2 : Int32)], (hM s))) rfl ?_
    cases h
    exact dp_iret okX6_grid rfl rfl hk
  · have h := dp_ic c h
    refine dp_blk okX6_grid 3 (S' := (14, [some (.inr (some 0)), some (.inl v1), some (.inl v2), some (.inl v3), none, none, none, none], [.inl (12 : Int32), .inl (1 : Int32), .inl v2], (hM s))) rfl ?_
    obtain ⟨x2, hc, h⟩ := dp_bd_inv h
    refine dp_cS okX6_grid okX6_within (as := [.inl v2, .inl (1 : Int32), .inl (12 : Int32)]) (r := []) rfl lk_NearLiarsModel_63 npX6_within (c_X6_within (hM s) v2 (1 : Int32) (12 : Int32) x2 hc) rfl (Nat.le_of_ble_eq_true rfl) (Nat.le_of_ble_eq_true rfl) (Nat.le_refl _) (Nat.le_refl _) ?_
    refine dp_blk okX6_grid 0 (S' := (17, [some (.inr (some 0)), some (.inl v1), some (.inl v2), some (.inl v3), none, none, none, none], [.inl x2], (hM s))) rfl ?_
    refine dp_if0 okX6_grid rfl (fun (c : x2 = (0 : Int32)) => ?_) (fun (c : ¬ x2 = (0 : Int32)) => ?_)
    · have h := dp_ip c h
      refine dp_blk okX6_grid 1 (S' := (43, [some (.inr (some 0)), some (.inl v1), some (.inl v2), some (.inl v3), none, none, none, none], [.inl (-2 : Int32)], (hM s))) rfl ?_
      cases h
      exact dp_iret okX6_grid rfl rfl hk
    · have h := dp_ic c h
      refine dp_blk okX6_grid 5 (S' := (26, [some (.inr (some 0)), some (.inl v1), some (.inl v2), some (.inl v3), none, none, none, none], [.inl (12 : Int32), .inl (2 : Int32), .inl (v1 * v2)], (hM s))) rfl ?_
      obtain ⟨x3, hc, h⟩ := dp_bd_inv h
      refine dp_cS okX6_grid okX6_within (as := [.inl (v1 * v2), .inl (2 : Int32), .inl (12 : Int32)]) (r := []) rfl lk_NearLiarsModel_63 npX6_within (c_X6_within (hM s) (v1 * v2) (2 : Int32) (12 : Int32) x3 hc) rfl (Nat.le_of_ble_eq_true rfl) (Nat.le_of_ble_eq_true rfl) (Nat.le_refl _) (Nat.le_refl _) ?_
      refine dp_blk okX6_grid 0 (S' := (29, [some (.inr (some 0)), some (.inl v1), some (.inl v2), some (.inl v3), none, none, none, none], [.inl x3], (hM s))) rfl ?_
      refine dp_if0 okX6_grid rfl (fun (c : x3 = (0 : Int32)) => ?_) (fun (c : ¬ x3 = (0 : Int32)) => ?_)
      · have h := dp_ip c h
        refine dp_blk okX6_grid 1 (S' := (43, [some (.inr (some 0)), some (.inl v1), some (.inl v2), some (.inl v3), none, none, none, none], [.inl (-2 : Int32)], (hM s))) rfl ?_
        cases h
        exact dp_iret okX6_grid rfl rfl hk
      · have h := dp_ic c h
        refine dp_blk okX6_grid 3 (S' := (35, [some (.inr (some 0)), some (.inl v1), some (.inl v2), some (.inl v3), none, none, none, none], [.inl (3 : Int32), .inl (1 : Int32), .inl v3], (hM s))) rfl ?_
        obtain ⟨x4, hc, h⟩ := dp_bd_inv h
        refine dp_cS okX6_grid okX6_within (as := [.inl v3, .inl (1 : Int32), .inl (3 : Int32)]) (r := []) rfl lk_NearLiarsModel_63 npX6_within (c_X6_within (hM s) v3 (1 : Int32) (3 : Int32) x4 hc) rfl (Nat.le_of_ble_eq_true rfl) (Nat.le_of_ble_eq_true rfl) (Nat.le_refl _) (Nat.le_refl _) ?_
        refine dp_blk okX6_grid 0 (S' := (38, [some (.inr (some 0)), some (.inl v1), some (.inl v2), some (.inl v3), none, none, none, none], [.inl x4], (hM s))) rfl ?_
        refine dp_if0 okX6_grid rfl (fun (c : ¬ x4 = (0 : Int32)) => ?_) (fun (c : x4 = (0 : Int32)) => ?_)
        · have h := dp_ic c h
          refine dp_blk okX6_grid 6 (S' := (50, [some (.inr (some 0)), some (.inl v1), some (.inl v2), some (.inl v3), none, none, none, none], [.inl v2, .inl v1, .inl (v1 * v2), .inr (some 0)], (hM s))) rfl ?_
          obtain ⟨x5, hc, h⟩ := dp_bd_inv h
          refine dp_cV okX6_grid okX6_lays (as := [.inl (v1 * v2), .inl v1, .inl v2]) (r := []) rfl lk_NearLiarsModel_82 npX6_lays (c_X6_lays s (v1 * v2) v1 v2 x5 hc) rfl rfl rfl rfl (Nat.le_of_ble_eq_true rfl) (Nat.le_of_ble_eq_true rfl) (Nat.le_refl _) (Nat.le_refl _) ?_
          refine dp_blk okX6_grid 2 (S' := (56, [some (.inr (some 0)), some (.inl v1), some (.inl v2), some (.inl v3), some (.inl (0 : Int32)), none, none, none], [], (hM x5))) rfl ?_
          refine dp_fg [true, true, false, true, true, false, false, false] (L' := [some (.inr (some 0)), some (.inl v1), none, some (.inl v3), some (.inl (0 : Int32)), none, none, none]) rfl rfl ?_
          obtain ⟨x10, hl, h⟩ := dp_bd_inv h
          refine dp_loopW (wl_X6_grid_56 v1 v3) dp_F (x5, (0 : Int32)) x10 hl ?_
          show dp_W 7 mX6_grid false h0 0 0 post 0 0 (158, [some (.inr (some 0)), none, none, none, none, none, none, none], [], (hM x10))
          refine dp_blk okX6_grid 1 (S' := (159, [some (.inr (some 0)), none, none, none, none, none, none, none], [.inr (some 0)], (hM x10))) rfl ?_
          obtain ⟨x11, hc, h⟩ := dp_bd_inv h
          refine dp_cV okX6_grid okX6_begins (as := []) (r := []) rfl lk_NearLiarsModel_60 npX6_begins (c_X6_begins x10 x11 hc) rfl rfl rfl rfl (Nat.le_of_ble_eq_true rfl) (Nat.le_of_ble_eq_true rfl) (Nat.le_refl _) (Nat.le_refl _) ?_
          refine dp_blk okX6_grid 2 (S' := (166, [some (.inr (some 0)), none, none, none, none, none, none, none], [.inl (x11.1 0)], (hM x11))) rfl ?_
          cases h
          exact dp_iret okX6_grid rfl rfl hk
        · have h := dp_ip c h
          refine dp_blk okX6_grid 1 (S' := (43, [some (.inr (some 0)), some (.inl v1), some (.inl v2), some (.inl v3), none, none, none, none], [.inl (-2 : Int32)], (hM s))) rfl ?_
          cases h
          exact dp_iret okX6_grid rfl rfl hk
theorem c_X6_grid (s : dp_Z) (v1 v2 v3 : Int32) (o : (Int32 × dp_Z)) (h : j_X6_grid s v1 v2 v3 = some o) : dp_C 7 mX6_grid false [.inr (some 0), .inl v1, .inl v2, .inl v3] (hM s) 0 0 (dp_R (some (.inl o.1)) (hM o.2)) := dp_C_of okX6_grid [some (.inr (some 0)), some (.inl v1), some (.inl v2), some (.inl v3), none, none, none, none] rfl (Nat.le_of_ble_eq_true rfl) (we_X6_grid s v1 v2 v3 o h ⟨rfl, rfl⟩)
def j_X6_edge (s : dp_Z) (v1 v2 v3 : Int32) : Option (Int32 × dp_Z) := (dp_bd (j_X6_isNode s v1) fun x1 => (if x1 = (0 : Int32) then (some ((-1 : Int32), s)) else (dp_bd (j_X6_isNode s v2) fun x2 => (if x2 = (0 : Int32) then (some ((-1 : Int32), s)) else (dp_bd (j_X6_within v3 (0 : Int32) (1 : Int32)) fun x3 => (if x3 = (0 : Int32) then (some ((-2 : Int32), s)) else (if v1 = v2 then (some ((-3 : Int32), s)) else (if dp_inb v1 12 = true then (dp_bd (some ((((s.2 0) (v1).toNatClampNeg) >>> (v2 &&& 31)) &&& (1 : Int32))) fun y4 => (if dp_inb v1 12 = true then (if dp_inb v1 12 = true then (dp_bd (some (dp_sr s 0 (upd (s.2 0) (v1).toNatClampNeg ((((s.2 0) (v1).toNatClampNeg) &&& (((1 : Int32) <<< (v2 &&& 31)) ^^^ (-1 : Int32))) ||| (v3 <<< (v2 &&& 31)))))) fun s5 => (if dp_inb v2 12 = true then (if dp_inb v2 12 = true then (dp_bd (some (dp_sr s5 0 (upd (s5.2 0) (v2).toNatClampNeg ((((s5.2 0) (v2).toNatClampNeg) &&& (((1 : Int32) <<< (v1 &&& 31)) ^^^ (-1 : Int32))) ||| (v3 <<< (v1 &&& 31)))))) fun s6 => (dp_bd (j_X6_forgets s6) fun x7 => (some (y4, x7)))) else none) else none)) else none) else none)) else none))))))))
set_option maxHeartbeats 1000000 in
set_option maxRecDepth 20000 in
theorem we_X6_edge {post : Option dp_V → dp_H → Prop} {h0 : dp_H} (s : dp_Z) (v1 v2 v3 : Int32) (o : (Int32 × dp_Z)) (h : j_X6_edge s v1 v2 v3 = some o) (hk : post (some (.inl o.1)) (hM o.2)) : dp_W 6 mX6_edge false h0 0 0 post 0 0 (0, [some (.inr (some 0)), some (.inl v1), some (.inl v2), some (.inl v3), none], [], (hM s)) := by
  unfold j_X6_edge at h
  refine dp_blk okX6_edge 2 (S' := (2, [some (.inr (some 0)), some (.inl v1), some (.inl v2), some (.inl v3), none], [.inl v1, .inr (some 0)], (hM s))) rfl ?_
  obtain ⟨x1, hc, h⟩ := dp_bd_inv h
  refine dp_cV okX6_edge okX6_isNode (as := [.inl v1]) (r := []) rfl lk_NearLiarsModel_86 npX6_isNode (c_X6_isNode s v1 x1 hc) rfl rfl rfl rfl (Nat.le_of_ble_eq_true rfl) (Nat.le_of_ble_eq_true rfl) (Nat.le_refl _) (Nat.le_refl _) ?_
  refine dp_blk okX6_edge 0 (S' := (5, [some (.inr (some 0)), some (.inl v1), some (.inl v2), some (.inl v3), none], [.inl x1], (hM s))) rfl ?_
  refine dp_if0 okX6_edge rfl (fun (c : x1 = (0 : Int32)) => ?_) (fun (c : ¬ x1 = (0 : Int32)) => ?_)
  · have h := dp_ip c h
    refine dp_blk okX6_edge 1 (S' := (17, [some (.inr (some 0)), some (.inl v1), some (.inl v2), some (.inl v3), none], [.inl (-1 : Int32)], (hM s))) rfl ?_
    cases h
    exact dp_iret okX6_edge rfl rfl hk
  · have h := dp_ic c h
    refine dp_blk okX6_edge 2 (S' := (10, [some (.inr (some 0)), some (.inl v1), some (.inl v2), some (.inl v3), none], [.inl v2, .inr (some 0)], (hM s))) rfl ?_
    obtain ⟨x2, hc, h⟩ := dp_bd_inv h
    refine dp_cV okX6_edge okX6_isNode (as := [.inl v2]) (r := []) rfl lk_NearLiarsModel_86 npX6_isNode (c_X6_isNode s v2 x2 hc) rfl rfl rfl rfl (Nat.le_of_ble_eq_true rfl) (Nat.le_of_ble_eq_true rfl) (Nat.le_refl _) (Nat.le_refl _) ?_
    refine dp_blk okX6_edge 0 (S' := (13, [some (.inr (some 0)), some (.inl v1), some (.inl v2), some (.inl v3), none], [.inl x2], (hM s))) rfl ?_
    refine dp_if0 okX6_edge rfl (fun (c : ¬ x2 = (0 : Int32)) => ?_) (fun (c : x2 = (0 : Int32)) => ?_)
    · have h := dp_ic c h
      refine dp_blk okX6_edge 3 (S' := (21, [some (.inr (some 0)), some (.inl v1), some (.inl v2), some (.inl v3), none], [.inl (1 : Int32), .inl (0 : Int32), .inl v3], (hM s))) rfl ?_
      obtain ⟨x3, hc, h⟩ := dp_bd_inv h
      refine dp_cS okX6_edge okX6_within (as := [.inl v3, .inl (0 : Int32), .inl (1 : Int32)]) (r := []) rfl lk_NearLiarsModel_63 npX6_within (c_X6_within (hM s) v3 (0 : Int32) (1 : Int32) x3 hc) rfl (Nat.le_of_ble_eq_true rfl) (Nat.le_of_ble_eq_true rfl) (Nat.le_refl _) (Nat.le_refl _) ?_
      refine dp_blk okX6_edge 0 (S' := (24, [some (.inr (some 0)), some (.inl v1), some (.inl v2), some (.inl v3), none], [.inl x3], (hM s))) rfl ?_
      refine dp_if0 okX6_edge rfl (fun (c : ¬ x3 = (0 : Int32)) => ?_) (fun (c : x3 = (0 : Int32)) => ?_)
      · have h := dp_ic c h
        refine dp_blk okX6_edge 2 (S' := (32, [some (.inr (some 0)), some (.inl v1), some (.inl v2), some (.inl v3), none], [.inl v2, .inl v1], (hM s))) rfl ?_
        refine dp_if okX6_edge rfl (fun (c : ¬ v1 = v2) => ?_) (fun (c : v1 = v2) => ?_)
        · have h := dp_ic c h
          refine dp_blk okX6_edge 3 (S' := (43, [some (.inr (some 0)), some (.inl v1), some (.inl v2), some (.inl v3), none], [.inl v1, .inr (some 1)], (hM s))) rfl ?_
          obtain ⟨hi, h⟩ := dp_ite h
          refine dp_ial (g := (s.2 0)) okX6_edge rfl rfl (dp_inb_in hi) ?_
          obtain ⟨y4, hy, h⟩ := dp_bd_inv h
          have hy := Option.some.inj hy
          refine dp_blk okX6_edge 5 (S' := (50, [some (.inr (some 0)), some (.inl v1), some (.inl v2), some (.inl v3), some (.inl y4)], [], (hM s))) (by subst hy; rfl) ?_
          refine dp_blk okX6_edge 6 (S' := (60, [some (.inr (some 0)), some (.inl v1), some (.inl v2), some (.inl v3), some (.inl y4)], [.inl v1, .inr (some 1), .inl v1, .inr (some 1)], (hM s))) rfl ?_
          obtain ⟨hi, h⟩ := dp_ite h
          refine dp_ial (g := (s.2 0)) okX6_edge rfl rfl (dp_inb_in hi) ?_
          refine dp_blk okX6_edge 10 (S' := (71, [some (.inr (some 0)), some (.inl v1), some (.inl v2), some (.inl v3), some (.inl y4)], [.inl ((((s.2 0) (v1).toNatClampNeg) &&& (((1 : Int32) <<< (v2 &&& 31)) ^^^ (-1 : Int32))) ||| (v3 <<< (v2 &&& 31))), .inl v1, .inr (some 1)], (hM s))) rfl ?_
          obtain ⟨hi, h⟩ := dp_ite h
          obtain ⟨s5, hs, h⟩ := dp_bd_inv h
          have hs := Option.some.inj hs
          refine dp_iase (g := (s.2 0)) okX6_edge rfl rfl (dp_inb_in hi) ((ahM_0 s _).trans (congrArg hM hs)) ?_
          refine dp_blk okX6_edge 6 (S' := (82, [some (.inr (some 0)), some (.inl v1), some (.inl v2), some (.inl v3), some (.inl y4)], [.inl v2, .inr (some 1), .inl v2, .inr (some 1)], (hM s5))) rfl ?_
          obtain ⟨hi, h⟩ := dp_ite h
          refine dp_ial (g := (s5.2 0)) okX6_edge rfl rfl (dp_inb_in hi) ?_
          refine dp_blk okX6_edge 10 (S' := (93, [some (.inr (some 0)), some (.inl v1), some (.inl v2), some (.inl v3), some (.inl y4)], [.inl ((((s5.2 0) (v2).toNatClampNeg) &&& (((1 : Int32) <<< (v1 &&& 31)) ^^^ (-1 : Int32))) ||| (v3 <<< (v1 &&& 31))), .inl v2, .inr (some 1)], (hM s5))) rfl ?_
          obtain ⟨hi, h⟩ := dp_ite h
          obtain ⟨s6, hs, h⟩ := dp_bd_inv h
          have hs := Option.some.inj hs
          refine dp_iase (g := (s5.2 0)) okX6_edge rfl rfl (dp_inb_in hi) ((ahM_0 s5 _).trans (congrArg hM hs)) ?_
          refine dp_blk okX6_edge 1 (S' := (95, [some (.inr (some 0)), some (.inl v1), some (.inl v2), some (.inl v3), some (.inl y4)], [.inr (some 0)], (hM s6))) rfl ?_
          obtain ⟨x7, hc, h⟩ := dp_bd_inv h
          refine dp_cV okX6_edge okX6_forgets (as := []) (r := []) rfl lk_NearLiarsModel_73 npX6_forgets (c_X6_forgets s6 x7 hc) rfl rfl rfl rfl (Nat.le_of_ble_eq_true rfl) (Nat.le_of_ble_eq_true rfl) (Nat.le_refl _) (Nat.le_refl _) ?_
          refine dp_blk okX6_edge 1 (S' := (100, [some (.inr (some 0)), some (.inl v1), some (.inl v2), some (.inl v3), some (.inl y4)], [.inl y4], (hM x7))) rfl ?_
          cases h
          exact dp_iret okX6_edge rfl rfl hk
        · have h := dp_ip c h
          refine dp_blk okX6_edge 1 (S' := (37, [some (.inr (some 0)), some (.inl v1), some (.inl v2), some (.inl v3), none], [.inl (-3 : Int32)], (hM s))) rfl ?_
          cases h
          exact dp_iret okX6_edge rfl rfl hk
      · have h := dp_ip c h
        refine dp_blk okX6_edge 1 (S' := (29, [some (.inr (some 0)), some (.inl v1), some (.inl v2), some (.inl v3), none], [.inl (-2 : Int32)], (hM s))) rfl ?_
        cases h
        exact dp_iret okX6_edge rfl rfl hk
    · have h := dp_ip c h
      refine dp_blk okX6_edge 1 (S' := (17, [some (.inr (some 0)), some (.inl v1), some (.inl v2), some (.inl v3), none], [.inl (-1 : Int32)], (hM s))) rfl ?_
      cases h
      exact dp_iret okX6_edge rfl rfl hk
theorem c_X6_edge (s : dp_Z) (v1 v2 v3 : Int32) (o : (Int32 × dp_Z)) (h : j_X6_edge s v1 v2 v3 = some o) : dp_C 6 mX6_edge false [.inr (some 0), .inl v1, .inl v2, .inl v3] (hM s) 0 0 (dp_R (some (.inl o.1)) (hM o.2)) := dp_C_of okX6_edge [some (.inr (some 0)), some (.inl v1), some (.inl v2), some (.inl v3), none] rfl (Nat.le_of_ble_eq_true rfl) (we_X6_edge s v1 v2 v3 o h ⟨rfl, rfl⟩)
def j_X6_neighbours (s : dp_Z) (v1 : Int32) : Option Int32 := (dp_bd (j_X6_isNode s v1) fun x1 => (if x1 = (0 : Int32) then (some (-1 : Int32)) else (if dp_inb v1 12 = true then (some ((s.2 0) (v1).toNatClampNeg)) else none)))
set_option maxHeartbeats 1000000 in
set_option maxRecDepth 20000 in
theorem we_X6_neighbours {post : Option dp_V → dp_H → Prop} {h0 : dp_H} (s : dp_Z) (v1 : Int32) (o : Int32) (h : j_X6_neighbours s v1 = some o) (hk : post (some (.inl o)) (hM s)) : dp_W 2 mX6_neighbours false h0 0 0 post 0 0 (0, [some (.inr (some 0)), some (.inl v1)], [], (hM s)) := by
  unfold j_X6_neighbours at h
  refine dp_blk okX6_neighbours 2 (S' := (2, [some (.inr (some 0)), some (.inl v1)], [.inl v1, .inr (some 0)], (hM s))) rfl ?_
  obtain ⟨x1, hc, h⟩ := dp_bd_inv h
  refine dp_cV okX6_neighbours okX6_isNode (as := [.inl v1]) (r := []) rfl lk_NearLiarsModel_86 npX6_isNode (c_X6_isNode s v1 x1 hc) rfl rfl rfl rfl (Nat.le_of_ble_eq_true rfl) (Nat.le_of_ble_eq_true rfl) (Nat.le_refl _) (Nat.le_refl _) ?_
  refine dp_blk okX6_neighbours 0 (S' := (5, [some (.inr (some 0)), some (.inl v1)], [.inl x1], (hM s))) rfl ?_
  refine dp_if0 okX6_neighbours rfl (fun (c : x1 = (0 : Int32)) => ?_) (fun (c : ¬ x1 = (0 : Int32)) => ?_)
  · have h := dp_ip c h
    refine dp_blk okX6_neighbours 1 (S' := (18, [some (.inr (some 0)), some (.inl v1)], [.inl (-1 : Int32)], (hM s))) rfl ?_
    cases h
    exact dp_iret okX6_neighbours rfl rfl hk
  · have h := dp_ic c h
    refine dp_blk okX6_neighbours 3 (S' := (13, [some (.inr (some 0)), some (.inl v1)], [.inl v1, .inr (some 1)], (hM s))) rfl ?_
    obtain ⟨hi, h⟩ := dp_ite h
    refine dp_ial (g := (s.2 0)) okX6_neighbours rfl rfl (dp_inb_in hi) ?_
    refine dp_blk okX6_neighbours 1 (S' := (18, [some (.inr (some 0)), some (.inl v1)], [.inl ((s.2 0) (v1).toNatClampNeg)], (hM s))) rfl ?_
    cases h
    exact dp_iret okX6_neighbours rfl rfl hk
theorem c_X6_neighbours (s : dp_Z) (v1 : Int32) (o : Int32) (h : j_X6_neighbours s v1 = some o) : dp_C 2 mX6_neighbours false [.inr (some 0), .inl v1] (hM s) 0 0 (dp_R (some (.inl o)) (hM s)) := dp_C_of okX6_neighbours [some (.inr (some 0)), some (.inl v1)] rfl (Nat.le_of_ble_eq_true rfl) (we_X6_neighbours s v1 o h ⟨rfl, rfl⟩)
def j_X6_dealer (s : dp_Z) (v1 v2 : Int32) : Option (Int32 × dp_Z) := (dp_bd (j_X6_isNode s v1) fun x1 => (if x1 = (0 : Int32) then (some ((-1 : Int32), s)) else (dp_bd (j_X6_within v2 (0 : Int32) (3 : Int32)) fun x2 => (if x2 = (0 : Int32) then (some ((-2 : Int32), s)) else (dp_bd (some (dp_sf s 3 v1)) fun s3 => (dp_bd (some (dp_sf s3 4 v2)) fun s4 => (if dp_inb v1 12 = true then (dp_bd (some (dp_sr s4 1 (upd (s4.2 1) (v1).toNatClampNeg (-9 : Int32)))) fun s5 => (dp_bd (j_X6_forgets s5) fun x6 => (some ((s.1 3), x6)))) else none)))))))
set_option maxHeartbeats 1000000 in
set_option maxRecDepth 20000 in
theorem we_X6_dealer {post : Option dp_V → dp_H → Prop} {h0 : dp_H} (s : dp_Z) (v1 v2 : Int32) (o : (Int32 × dp_Z)) (h : j_X6_dealer s v1 v2 = some o) (hk : post (some (.inl o.1)) (hM o.2)) : dp_W 6 mX6_dealer false h0 0 0 post 0 0 (0, [some (.inr (some 0)), some (.inl v1), some (.inl v2), none], [], (hM s)) := by
  unfold j_X6_dealer at h
  refine dp_blk okX6_dealer 2 (S' := (2, [some (.inr (some 0)), some (.inl v1), some (.inl v2), none], [.inl v1, .inr (some 0)], (hM s))) rfl ?_
  obtain ⟨x1, hc, h⟩ := dp_bd_inv h
  refine dp_cV okX6_dealer okX6_isNode (as := [.inl v1]) (r := []) rfl lk_NearLiarsModel_86 npX6_isNode (c_X6_isNode s v1 x1 hc) rfl rfl rfl rfl (Nat.le_of_ble_eq_true rfl) (Nat.le_of_ble_eq_true rfl) (Nat.le_refl _) (Nat.le_refl _) ?_
  refine dp_blk okX6_dealer 0 (S' := (5, [some (.inr (some 0)), some (.inl v1), some (.inl v2), none], [.inl x1], (hM s))) rfl ?_
  refine dp_if0 okX6_dealer rfl (fun (c : ¬ x1 = (0 : Int32)) => ?_) (fun (c : x1 = (0 : Int32)) => ?_)
  · have h := dp_ic c h
    refine dp_blk okX6_dealer 3 (S' := (13, [some (.inr (some 0)), some (.inl v1), some (.inl v2), none], [.inl (3 : Int32), .inl (0 : Int32), .inl v2], (hM s))) rfl ?_
    obtain ⟨x2, hc, h⟩ := dp_bd_inv h
    refine dp_cS okX6_dealer okX6_within (as := [.inl v2, .inl (0 : Int32), .inl (3 : Int32)]) (r := []) rfl lk_NearLiarsModel_63 npX6_within (c_X6_within (hM s) v2 (0 : Int32) (3 : Int32) x2 hc) rfl (Nat.le_of_ble_eq_true rfl) (Nat.le_of_ble_eq_true rfl) (Nat.le_refl _) (Nat.le_refl _) ?_
    refine dp_blk okX6_dealer 0 (S' := (16, [some (.inr (some 0)), some (.inl v1), some (.inl v2), none], [.inl x2], (hM s))) rfl ?_
    refine dp_if0 okX6_dealer rfl (fun (c : ¬ x2 = (0 : Int32)) => ?_) (fun (c : x2 = (0 : Int32)) => ?_)
    · have h := dp_ic c h
      refine dp_blk okX6_dealer 5 (S' := (29, [some (.inr (some 0)), some (.inl v1), some (.inl v2), some (.inl (s.1 3))], [.inl v1, .inr (some 0)], (hM s))) rfl ?_
      obtain ⟨s3, hs, h⟩ := dp_bd_inv h
      have hs := Option.some.inj hs
      refine dp_pfe okX6_dealer rfl (by decide) (qhM_0 s) (Nat.le_of_ble_eq_true rfl) ((phM_3 s v1).trans (congrArg hM hs)) ?_
      refine dp_blk okX6_dealer 2 (S' := (34, [some (.inr (some 0)), some (.inl v1), some (.inl v2), some (.inl (s.1 3))], [.inl v2, .inr (some 0)], (hM s3))) rfl ?_
      obtain ⟨s4, hs, h⟩ := dp_bd_inv h
      have hs := Option.some.inj hs
      refine dp_pfe okX6_dealer rfl (by decide) (qhM_0 s3) (Nat.le_of_ble_eq_true rfl) ((phM_4 s3 v2).trans (congrArg hM hs)) ?_
      refine dp_blk okX6_dealer 4 (S' := (44, [some (.inr (some 0)), some (.inl v1), some (.inl v2), some (.inl (s.1 3))], [.inl (-9 : Int32), .inl v1, .inr (some 2)], (hM s4))) rfl ?_
      obtain ⟨hi, h⟩ := dp_ite h
      obtain ⟨s5, hs, h⟩ := dp_bd_inv h
      have hs := Option.some.inj hs
      refine dp_iase (g := (s4.2 1)) okX6_dealer rfl rfl (dp_inb_in hi) ((ahM_1 s4 _).trans (congrArg hM hs)) ?_
      refine dp_blk okX6_dealer 1 (S' := (46, [some (.inr (some 0)), some (.inl v1), some (.inl v2), some (.inl (s.1 3))], [.inr (some 0)], (hM s5))) rfl ?_
      obtain ⟨x6, hc, h⟩ := dp_bd_inv h
      refine dp_cV okX6_dealer okX6_forgets (as := []) (r := []) rfl lk_NearLiarsModel_73 npX6_forgets (c_X6_forgets s5 x6 hc) rfl rfl rfl rfl (Nat.le_of_ble_eq_true rfl) (Nat.le_of_ble_eq_true rfl) (Nat.le_refl _) (Nat.le_refl _) ?_
      refine dp_blk okX6_dealer 1 (S' := (50, [some (.inr (some 0)), some (.inl v1), some (.inl v2), some (.inl (s.1 3))], [.inl (s.1 3)], (hM x6))) rfl ?_
      cases h
      exact dp_iret okX6_dealer rfl rfl hk
    · have h := dp_ip c h
      refine dp_blk okX6_dealer 1 (S' := (21, [some (.inr (some 0)), some (.inl v1), some (.inl v2), none], [.inl (-2 : Int32)], (hM s))) rfl ?_
      cases h
      exact dp_iret okX6_dealer rfl rfl hk
  · have h := dp_ip c h
    refine dp_blk okX6_dealer 1 (S' := (9, [some (.inr (some 0)), some (.inl v1), some (.inl v2), none], [.inl (-1 : Int32)], (hM s))) rfl ?_
    cases h
    exact dp_iret okX6_dealer rfl rfl hk
theorem c_X6_dealer (s : dp_Z) (v1 v2 : Int32) (o : (Int32 × dp_Z)) (h : j_X6_dealer s v1 v2 = some o) : dp_C 6 mX6_dealer false [.inr (some 0), .inl v1, .inl v2] (hM s) 0 0 (dp_R (some (.inl o.1)) (hM o.2)) := dp_C_of okX6_dealer [some (.inr (some 0)), some (.inl v1), some (.inl v2), none] rfl (Nat.le_of_ble_eq_true rfl) (we_X6_dealer s v1 v2 o h ⟨rfl, rfl⟩)
def j_X6_need (s : dp_Z) (v1 : Int32) : Option (Int32 × dp_Z) := (dp_bd (j_X6_within v1 (1 : Int32) (6 : Int32)) fun x1 => (if x1 = (0 : Int32) then (some ((-2 : Int32), s)) else (dp_bd (some (dp_sf s 5 v1)) fun s2 => (dp_bd (j_X6_begins s2) fun x3 => (some ((s.1 5), x3))))))
set_option maxHeartbeats 1000000 in
set_option maxRecDepth 20000 in
theorem we_X6_need {post : Option dp_V → dp_H → Prop} {h0 : dp_H} (s : dp_Z) (v1 : Int32) (o : (Int32 × dp_Z)) (h : j_X6_need s v1 = some o) (hk : post (some (.inl o.1)) (hM o.2)) : dp_W 5 mX6_need false h0 0 0 post 0 0 (0, [some (.inr (some 0)), some (.inl v1), none], [], (hM s)) := by
  unfold j_X6_need at h
  refine dp_blk okX6_need 3 (S' := (4, [some (.inr (some 0)), some (.inl v1), none], [.inl (6 : Int32), .inl (1 : Int32), .inl v1], (hM s))) rfl ?_
  obtain ⟨x1, hc, h⟩ := dp_bd_inv h
  refine dp_cS okX6_need okX6_within (as := [.inl v1, .inl (1 : Int32), .inl (6 : Int32)]) (r := []) rfl lk_NearLiarsModel_63 npX6_within (c_X6_within (hM s) v1 (1 : Int32) (6 : Int32) x1 hc) rfl (Nat.le_of_ble_eq_true rfl) (Nat.le_of_ble_eq_true rfl) (Nat.le_refl _) (Nat.le_refl _) ?_
  refine dp_blk okX6_need 0 (S' := (7, [some (.inr (some 0)), some (.inl v1), none], [.inl x1], (hM s))) rfl ?_
  refine dp_if0 okX6_need rfl (fun (c : ¬ x1 = (0 : Int32)) => ?_) (fun (c : x1 = (0 : Int32)) => ?_)
  · have h := dp_ic c h
    refine dp_blk okX6_need 5 (S' := (20, [some (.inr (some 0)), some (.inl v1), some (.inl (s.1 5))], [.inl v1, .inr (some 0)], (hM s))) rfl ?_
    obtain ⟨s2, hs, h⟩ := dp_bd_inv h
    have hs := Option.some.inj hs
    refine dp_pfe okX6_need rfl (by decide) (qhM_0 s) (Nat.le_of_ble_eq_true rfl) ((phM_5 s v1).trans (congrArg hM hs)) ?_
    refine dp_blk okX6_need 1 (S' := (24, [some (.inr (some 0)), some (.inl v1), some (.inl (s.1 5))], [.inr (some 0)], (hM s2))) rfl ?_
    obtain ⟨x3, hc, h⟩ := dp_bd_inv h
    refine dp_cV okX6_need okX6_begins (as := []) (r := []) rfl lk_NearLiarsModel_60 npX6_begins (c_X6_begins s2 x3 hc) rfl rfl rfl rfl (Nat.le_of_ble_eq_true rfl) (Nat.le_of_ble_eq_true rfl) (Nat.le_refl _) (Nat.le_refl _) ?_
    refine dp_blk okX6_need 1 (S' := (28, [some (.inr (some 0)), some (.inl v1), some (.inl (s.1 5))], [.inl (s.1 5)], (hM x3))) rfl ?_
    cases h
    exact dp_iret okX6_need rfl rfl hk
  · have h := dp_ip c h
    refine dp_blk okX6_need 1 (S' := (12, [some (.inr (some 0)), some (.inl v1), none], [.inl (-2 : Int32)], (hM s))) rfl ?_
    cases h
    exact dp_iret okX6_need rfl rfl hk
theorem c_X6_need (s : dp_Z) (v1 : Int32) (o : (Int32 × dp_Z)) (h : j_X6_need s v1 = some o) : dp_C 5 mX6_need false [.inr (some 0), .inl v1] (hM s) 0 0 (dp_R (some (.inl o.1)) (hM o.2)) := dp_C_of okX6_need [some (.inr (some 0)), some (.inl v1), none] rfl (Nat.le_of_ble_eq_true rfl) (we_X6_need s v1 o h ⟨rfl, rfl⟩)
def jj_X6_lie_28 (s : dp_Z) (v1 v2 : Int32) : Option (Int32 × dp_Z) := (if v1 = (s.1 3) then (some ((-3 : Int32), s)) else (if dp_inb v1 12 = true then (if dp_inb v1 12 = true then (dp_bd (some (dp_sr s 1 (upd (s.2 1) (v1).toNatClampNeg v2))) fun s2 => (dp_bd (j_X6_begins s2) fun x3 => (some (((s.2 1) (v1).toNatClampNeg), x3)))) else none) else none))
set_option maxHeartbeats 1000000 in
set_option maxRecDepth 20000 in
theorem wj_X6_lie_28 {post : Option dp_V → dp_H → Prop} {h0 : dp_H} (s : dp_Z) (v1 v2 : Int32) (o : (Int32 × dp_Z)) (h : jj_X6_lie_28 s v1 v2 = some o) (hk : post (some (.inl o.1)) (hM o.2)) : dp_W 5 mX6_lie false h0 0 0 post 0 0 (28, [some (.inr (some 0)), some (.inl v1), some (.inl v2), none], [], (hM s)) := by
  unfold jj_X6_lie_28 at h
  refine dp_blk okX6_lie 3 (S' := (33, [some (.inr (some 0)), some (.inl v1), some (.inl v2), none], [.inl (s.1 3), .inl v1], (hM s))) rfl ?_
  refine dp_if okX6_lie rfl (fun (c : ¬ v1 = (s.1 3)) => ?_) (fun (c : v1 = (s.1 3)) => ?_)
  · have h := dp_ic c h
    refine dp_blk okX6_lie 3 (S' := (44, [some (.inr (some 0)), some (.inl v1), some (.inl v2), none], [.inl v1, .inr (some 2)], (hM s))) rfl ?_
    obtain ⟨hi, h⟩ := dp_ite h
    refine dp_ial (g := (s.2 1)) okX6_lie rfl rfl (dp_inb_in hi) ?_
    refine dp_blk okX6_lie 5 (S' := (52, [some (.inr (some 0)), some (.inl v1), some (.inl v2), some (.inl ((s.2 1) (v1).toNatClampNeg))], [.inl v2, .inl v1, .inr (some 2)], (hM s))) rfl ?_
    obtain ⟨hi, h⟩ := dp_ite h
    obtain ⟨s2, hs, h⟩ := dp_bd_inv h
    have hs := Option.some.inj hs
    refine dp_iase (g := (s.2 1)) okX6_lie rfl rfl (dp_inb_in hi) ((ahM_1 s _).trans (congrArg hM hs)) ?_
    refine dp_blk okX6_lie 1 (S' := (54, [some (.inr (some 0)), some (.inl v1), some (.inl v2), some (.inl ((s.2 1) (v1).toNatClampNeg))], [.inr (some 0)], (hM s2))) rfl ?_
    obtain ⟨x3, hc, h⟩ := dp_bd_inv h
    refine dp_cV okX6_lie okX6_begins (as := []) (r := []) rfl lk_NearLiarsModel_60 npX6_begins (c_X6_begins s2 x3 hc) rfl rfl rfl rfl (Nat.le_of_ble_eq_true rfl) (Nat.le_of_ble_eq_true rfl) (Nat.le_refl _) (Nat.le_refl _) ?_
    refine dp_blk okX6_lie 1 (S' := (58, [some (.inr (some 0)), some (.inl v1), some (.inl v2), some (.inl ((s.2 1) (v1).toNatClampNeg))], [.inl ((s.2 1) (v1).toNatClampNeg)], (hM x3))) rfl ?_
    cases h
    exact dp_iret okX6_lie rfl rfl hk
  · have h := dp_ip c h
    refine dp_blk okX6_lie 1 (S' := (38, [some (.inr (some 0)), some (.inl v1), some (.inl v2), none], [.inl (-3 : Int32)], (hM s))) rfl ?_
    cases h
    exact dp_iret okX6_lie rfl rfl hk
def j_X6_lie (s : dp_Z) (v1 v2 : Int32) : Option (Int32 × dp_Z) := (dp_bd (j_X6_isNode s v1) fun x1 => (if x1 = (0 : Int32) then (some ((-1 : Int32), s)) else (if v2 = (-9 : Int32) then (jj_X6_lie_28 s v1 v2) else (dp_bd (j_X6_within v2 (0 : Int32) (4 : Int32)) fun x4 => (if x4 = (0 : Int32) then (some ((-2 : Int32), s)) else (jj_X6_lie_28 s v1 v2))))))
set_option maxHeartbeats 1000000 in
set_option maxRecDepth 20000 in
theorem we_X6_lie {post : Option dp_V → dp_H → Prop} {h0 : dp_H} (s : dp_Z) (v1 v2 : Int32) (o : (Int32 × dp_Z)) (h : j_X6_lie s v1 v2 = some o) (hk : post (some (.inl o.1)) (hM o.2)) : dp_W 5 mX6_lie false h0 0 0 post 0 0 (0, [some (.inr (some 0)), some (.inl v1), some (.inl v2), none], [], (hM s)) := by
  unfold j_X6_lie at h
  refine dp_blk okX6_lie 2 (S' := (2, [some (.inr (some 0)), some (.inl v1), some (.inl v2), none], [.inl v1, .inr (some 0)], (hM s))) rfl ?_
  obtain ⟨x1, hc, h⟩ := dp_bd_inv h
  refine dp_cV okX6_lie okX6_isNode (as := [.inl v1]) (r := []) rfl lk_NearLiarsModel_86 npX6_isNode (c_X6_isNode s v1 x1 hc) rfl rfl rfl rfl (Nat.le_of_ble_eq_true rfl) (Nat.le_of_ble_eq_true rfl) (Nat.le_refl _) (Nat.le_refl _) ?_
  refine dp_blk okX6_lie 0 (S' := (5, [some (.inr (some 0)), some (.inl v1), some (.inl v2), none], [.inl x1], (hM s))) rfl ?_
  refine dp_if0 okX6_lie rfl (fun (c : ¬ x1 = (0 : Int32)) => ?_) (fun (c : x1 = (0 : Int32)) => ?_)
  · have h := dp_ic c h
    refine dp_blk okX6_lie 2 (S' := (13, [some (.inr (some 0)), some (.inl v1), some (.inl v2), none], [.inl (-9 : Int32), .inl v2], (hM s))) rfl ?_
    refine dp_if okX6_lie rfl (fun (c : v2 = (-9 : Int32)) => ?_) (fun (c : ¬ v2 = (-9 : Int32)) => ?_)
    · have h := dp_ip c h
      refine dp_blk okX6_lie 0 (S' := (28, [some (.inr (some 0)), some (.inl v1), some (.inl v2), none], [], (hM s))) rfl ?_
      exact wj_X6_lie_28 s v1 v2 _ h hk
    · have h := dp_ic c h
      refine dp_blk okX6_lie 3 (S' := (19, [some (.inr (some 0)), some (.inl v1), some (.inl v2), none], [.inl (4 : Int32), .inl (0 : Int32), .inl v2], (hM s))) rfl ?_
      obtain ⟨x4, hc, h⟩ := dp_bd_inv h
      refine dp_cS okX6_lie okX6_within (as := [.inl v2, .inl (0 : Int32), .inl (4 : Int32)]) (r := []) rfl lk_NearLiarsModel_63 npX6_within (c_X6_within (hM s) v2 (0 : Int32) (4 : Int32) x4 hc) rfl (Nat.le_of_ble_eq_true rfl) (Nat.le_of_ble_eq_true rfl) (Nat.le_refl _) (Nat.le_refl _) ?_
      refine dp_blk okX6_lie 0 (S' := (22, [some (.inr (some 0)), some (.inl v1), some (.inl v2), none], [.inl x4], (hM s))) rfl ?_
      refine dp_if0 okX6_lie rfl (fun (c : ¬ x4 = (0 : Int32)) => ?_) (fun (c : x4 = (0 : Int32)) => ?_)
      · have h := dp_ic c h
        refine dp_blk okX6_lie 0 (S' := (28, [some (.inr (some 0)), some (.inl v1), some (.inl v2), none], [], (hM s))) rfl ?_
        exact wj_X6_lie_28 s v1 v2 _ h hk
      · have h := dp_ip c h
        refine dp_blk okX6_lie 1 (S' := (27, [some (.inr (some 0)), some (.inl v1), some (.inl v2), none], [.inl (-2 : Int32)], (hM s))) rfl ?_
        cases h
        exact dp_iret okX6_lie rfl rfl hk
  · have h := dp_ip c h
    refine dp_blk okX6_lie 1 (S' := (9, [some (.inr (some 0)), some (.inl v1), some (.inl v2), none], [.inl (-1 : Int32)], (hM s))) rfl ?_
    cases h
    exact dp_iret okX6_lie rfl rfl hk
theorem c_X6_lie (s : dp_Z) (v1 v2 : Int32) (o : (Int32 × dp_Z)) (h : j_X6_lie s v1 v2 = some o) : dp_C 5 mX6_lie false [.inr (some 0), .inl v1, .inl v2] (hM s) 0 0 (dp_R (some (.inl o.1)) (hM o.2)) := dp_C_of okX6_lie [some (.inr (some 0)), some (.inl v1), some (.inl v2), none] rfl (Nat.le_of_ble_eq_true rfl) (we_X6_lie s v1 v2 o h ⟨rfl, rfl⟩)
def j_X6_begin (s : dp_Z) : Option (Int32 × dp_Z) := (dp_bd (j_X6_begins s) fun x1 => (some ((s.1 7), x1)))
set_option maxHeartbeats 1000000 in
set_option maxRecDepth 20000 in
theorem we_X6_begin {post : Option dp_V → dp_H → Prop} {h0 : dp_H} (s : dp_Z) (o : (Int32 × dp_Z)) (h : j_X6_begin s = some o) (hk : post (some (.inl o.1)) (hM o.2)) : dp_W 5 mX6_begin false h0 0 0 post 0 0 (0, [some (.inr (some 0)), none], [], (hM s)) := by
  unfold j_X6_begin at h
  refine dp_blk okX6_begin 4 (S' := (6, [some (.inr (some 0)), some (.inl (s.1 7))], [.inr (some 0)], (hM s))) rfl ?_
  obtain ⟨x1, hc, h⟩ := dp_bd_inv h
  refine dp_cV okX6_begin okX6_begins (as := []) (r := []) rfl lk_NearLiarsModel_60 npX6_begins (c_X6_begins s x1 hc) rfl rfl rfl rfl (Nat.le_of_ble_eq_true rfl) (Nat.le_of_ble_eq_true rfl) (Nat.le_refl _) (Nat.le_refl _) ?_
  refine dp_blk okX6_begin 1 (S' := (10, [some (.inr (some 0)), some (.inl (s.1 7))], [.inl (s.1 7)], (hM x1))) rfl ?_
  cases h
  exact dp_iret okX6_begin rfl rfl hk
theorem c_X6_begin (s : dp_Z) (o : (Int32 × dp_Z)) (h : j_X6_begin s = some o) : dp_C 5 mX6_begin false [.inr (some 0)] (hM s) 0 0 (dp_R (some (.inl o.1)) (hM o.2)) := dp_C_of okX6_begin [some (.inr (some 0)), none] rfl (Nat.le_of_ble_eq_true rfl) (we_X6_begin s o h ⟨rfl, rfl⟩)
def j_X6_isHonest (s : dp_Z) (v1 : Int32) : Option Int32 := (if dp_inb v1 12 = true then (if ((s.2 1) (v1).toNatClampNeg) = (-9 : Int32) then (some (1 : Int32)) else (some (0 : Int32))) else none)
set_option maxHeartbeats 1000000 in
set_option maxRecDepth 20000 in
theorem we_X6_isHonest {post : Option dp_V → dp_H → Prop} {h0 : dp_H} (s : dp_Z) (v1 : Int32) (o : Int32) (h : j_X6_isHonest s v1 = some o) (hk : post (some (.inl o)) (hM s)) : dp_W 0 mX6_isHonest false h0 0 0 post 0 0 (0, [some (.inr (some 0)), some (.inl v1)], [], (hM s)) := by
  unfold j_X6_isHonest at h
  refine dp_blk okX6_isHonest 3 (S' := (5, [some (.inr (some 0)), some (.inl v1)], [.inl v1, .inr (some 2)], (hM s))) rfl ?_
  obtain ⟨hi, h⟩ := dp_ite h
  refine dp_ial (g := (s.2 1)) okX6_isHonest rfl rfl (dp_inb_in hi) ?_
  refine dp_blk okX6_isHonest 1 (S' := (8, [some (.inr (some 0)), some (.inl v1)], [.inl (-9 : Int32), .inl ((s.2 1) (v1).toNatClampNeg)], (hM s))) rfl ?_
  refine dp_if okX6_isHonest rfl (fun (c : ¬ ((s.2 1) (v1).toNatClampNeg) = (-9 : Int32)) => ?_) (fun (c : ((s.2 1) (v1).toNatClampNeg) = (-9 : Int32)) => ?_)
  · have h := dp_ic c h
    refine dp_blk okX6_isHonest 1 (S' := (16, [some (.inr (some 0)), some (.inl v1)], [.inl (0 : Int32)], (hM s))) rfl ?_
    cases h
    exact dp_zret okX6_isHonest rfl rfl (by decide) hk
  · have h := dp_ip c h
    refine dp_blk okX6_isHonest 2 (S' := (16, [some (.inr (some 0)), some (.inl v1)], [.inl (1 : Int32)], (hM s))) rfl ?_
    cases h
    exact dp_zret okX6_isHonest rfl rfl (by decide) hk
theorem c_X6_isHonest (s : dp_Z) (v1 : Int32) (o : Int32) (h : j_X6_isHonest s v1 = some o) : dp_C 0 mX6_isHonest false [.inr (some 0), .inl v1] (hM s) 0 0 (dp_R (some (.inl o)) (hM s)) := dp_C_of okX6_isHonest [some (.inr (some 0)), some (.inl v1)] rfl (Nat.le_of_ble_eq_true rfl) (we_X6_isHonest s v1 o h ⟨rfl, rfl⟩)
def j_X6_says (s : dp_Z) (v1 : Int32) : Option Int32 := (if dp_inb v1 12 = true then (if ((s.2 5) (v1).toNatClampNeg) = (0 : Int32) then (dp_bd (j_X6_isHonest s v1) fun x1 => (if x1 = (0 : Int32) then (if dp_inb v1 12 = true then (if ((s.2 1) (v1).toNatClampNeg) = (4 : Int32) then (some (-9 : Int32)) else (if dp_inb v1 12 = true then (some ((s.2 1) (v1).toNatClampNeg)) else none)) else none) else (if dp_inb v1 12 = true then (some ((s.2 3) (v1).toNatClampNeg)) else none))) else (some (-9 : Int32))) else none)
set_option maxHeartbeats 1000000 in
set_option maxRecDepth 20000 in
theorem we_X6_says {post : Option dp_V → dp_H → Prop} {h0 : dp_H} (s : dp_Z) (v1 : Int32) (o : Int32) (h : j_X6_says s v1 = some o) (hk : post (some (.inl o)) (hM s)) : dp_W 1 mX6_says false h0 0 0 post 0 0 (0, [some (.inr (some 0)), some (.inl v1)], [], (hM s)) := by
  unfold j_X6_says at h
  refine dp_blk okX6_says 3 (S' := (5, [some (.inr (some 0)), some (.inl v1)], [.inl v1, .inr (some 6)], (hM s))) rfl ?_
  obtain ⟨hi, h⟩ := dp_ite h
  refine dp_bal (g := (s.2 5)) okX6_says rfl rfl (dp_inb_in hi) ?_
  refine dp_blk okX6_says 0 (S' := (6, [some (.inr (some 0)), some (.inl v1)], [.inl ((s.2 5) (v1).toNatClampNeg)], (hM s))) rfl ?_
  refine dp_if0 okX6_says rfl (fun (c : ((s.2 5) (v1).toNatClampNeg) = (0 : Int32)) => ?_) (fun (c : ¬ ((s.2 5) (v1).toNatClampNeg) = (0 : Int32)) => ?_)
  · have h := dp_ip c h
    refine dp_blk okX6_says 2 (S' := (14, [some (.inr (some 0)), some (.inl v1)], [.inl v1, .inr (some 0)], (hM s))) rfl ?_
    obtain ⟨x1, hc, h⟩ := dp_bd_inv h
    refine dp_cV okX6_says okX6_isHonest (as := [.inl v1]) (r := []) rfl lk_NearLiarsModel_112 npX6_isHonest (c_X6_isHonest s v1 x1 hc) rfl rfl rfl rfl (Nat.le_of_ble_eq_true rfl) (Nat.le_of_ble_eq_true rfl) (Nat.le_refl _) (Nat.le_refl _) ?_
    refine dp_blk okX6_says 0 (S' := (17, [some (.inr (some 0)), some (.inl v1)], [.inl x1], (hM s))) rfl ?_
    refine dp_if0 okX6_says rfl (fun (c : x1 = (0 : Int32)) => ?_) (fun (c : ¬ x1 = (0 : Int32)) => ?_)
    · have h := dp_ip c h
      refine dp_blk okX6_says 3 (S' := (34, [some (.inr (some 0)), some (.inl v1)], [.inl v1, .inr (some 2)], (hM s))) rfl ?_
      obtain ⟨hi, h⟩ := dp_ite h
      refine dp_ial (g := (s.2 1)) okX6_says rfl rfl (dp_inb_in hi) ?_
      refine dp_blk okX6_says 1 (S' := (36, [some (.inr (some 0)), some (.inl v1)], [.inl (4 : Int32), .inl ((s.2 1) (v1).toNatClampNeg)], (hM s))) rfl ?_
      refine dp_if okX6_says rfl (fun (c : ¬ ((s.2 1) (v1).toNatClampNeg) = (4 : Int32)) => ?_) (fun (c : ((s.2 1) (v1).toNatClampNeg) = (4 : Int32)) => ?_)
      · have h := dp_ic c h
        refine dp_blk okX6_says 3 (S' := (49, [some (.inr (some 0)), some (.inl v1)], [.inl v1, .inr (some 2)], (hM s))) rfl ?_
        obtain ⟨hi, h⟩ := dp_ite h
        refine dp_ial (g := (s.2 1)) okX6_says rfl rfl (dp_inb_in hi) ?_
        refine dp_blk okX6_says 0 (S' := (50, [some (.inr (some 0)), some (.inl v1)], [.inl ((s.2 1) (v1).toNatClampNeg)], (hM s))) rfl ?_
        cases h
        exact dp_iret okX6_says rfl rfl hk
      · have h := dp_ip c h
        refine dp_blk okX6_says 2 (S' := (50, [some (.inr (some 0)), some (.inl v1)], [.inl (-9 : Int32)], (hM s))) rfl ?_
        cases h
        exact dp_iret okX6_says rfl rfl hk
    · have h := dp_ic c h
      refine dp_blk okX6_says 3 (S' := (25, [some (.inr (some 0)), some (.inl v1)], [.inl v1, .inr (some 4)], (hM s))) rfl ?_
      obtain ⟨hi, h⟩ := dp_ite h
      refine dp_ial (g := (s.2 3)) okX6_says rfl rfl (dp_inb_in hi) ?_
      refine dp_blk okX6_says 1 (S' := (50, [some (.inr (some 0)), some (.inl v1)], [.inl ((s.2 3) (v1).toNatClampNeg)], (hM s))) rfl ?_
      cases h
      exact dp_iret okX6_says rfl rfl hk
  · have h := dp_ic c h
    refine dp_blk okX6_says 1 (S' := (11, [some (.inr (some 0)), some (.inl v1)], [.inl (-9 : Int32)], (hM s))) rfl ?_
    cases h
    exact dp_iret okX6_says rfl rfl hk
theorem c_X6_says (s : dp_Z) (v1 : Int32) (o : Int32) (h : j_X6_says s v1 = some o) : dp_C 1 mX6_says false [.inr (some 0), .inl v1] (hM s) 0 0 (dp_R (some (.inl o)) (hM s)) := dp_C_of okX6_says [some (.inr (some 0)), some (.inl v1)] rfl (Nat.le_of_ble_eq_true rfl) (we_X6_says s v1 o h ⟨rfl, rfl⟩)
def jj_X6_speaks_136 (s : dp_Z) (v1 v2 v3 v4 : Int32) : Option ((dp_Z × Int32 × Int32) ⊕ (dp_Z × Int32)) := (some (.inl (s, v3, (v4 + (1 : Int32)))))
set_option maxHeartbeats 1000000 in
set_option maxRecDepth 20000 in
theorem wj_X6_speaks_136 {post : Option dp_V → dp_H → Prop} {h0 : dp_H} (s : dp_Z) (v1 v2 v3 v4 : Int32) (o : ((dp_Z × Int32 × Int32) ⊕ (dp_Z × Int32))) (h : jj_X6_speaks_136 s v1 v2 v3 v4 = some o) (hk : dp_LK (fun x : (dp_Z × Int32 × Int32) => dp_W 1 mX6_speaks false h0 0 0 post 0 0 (12, [some (.inr (some 0)), some (.inl v1), some (.inl v2), some (.inl x.2.1), some (.inl x.2.2), none], [], (hM x.1))) (fun x : (dp_Z × Int32) => dp_W 1 mX6_speaks false h0 0 0 post 0 0 (142, [none, none, none, some (.inl x.2), none, none], [], (hM x.1))) o) : dp_W 1 mX6_speaks false h0 0 0 post 0 0 (136, [some (.inr (some 0)), some (.inl v1), some (.inl v2), some (.inl v3), some (.inl v4), none], [], (hM s)) := by
  unfold jj_X6_speaks_136 at h
  refine dp_blk okX6_speaks 2 (S' := (12, [some (.inr (some 0)), some (.inl v1), some (.inl v2), some (.inl v3), some (.inl (v4 + (1 : Int32))), none], [], (hM s))) rfl ?_
  cases h
  exact hk
def jj_X6_speaks_86 (s : dp_Z) (v1 v2 v3 v4 t0 : Int32) : Option ((dp_Z × Int32 × Int32) ⊕ (dp_Z × Int32)) := (dp_bd (j_X6_isHonest s v4) fun x4 => (if x4 = (0 : Int32) then (jj_X6_speaks_136 s v1 v2 v3 v4) else (if dp_inb v4 12 = true then (if ((s.2 3) (v4).toNatClampNeg) = (-9 : Int32) then (if t0 = (0 : Int32) then (jj_X6_speaks_136 s v1 v2 v3 v4) else (if dp_inb v4 12 = true then (dp_bd (some (dp_sr s 3 (upd (s.2 3) (v4).toNatClampNeg v2))) fun s5 => (if dp_inb v4 12 = true then (dp_bd (some (dp_sr s5 4 (upd (s5.2 4) (v4).toNatClampNeg (s5.1 7)))) fun s6 => (jj_X6_speaks_136 s6 v1 v2 (v3 + (1 : Int32)) v4)) else none)) else none)) else (jj_X6_speaks_136 s v1 v2 v3 v4)) else none)))
set_option maxHeartbeats 1000000 in
set_option maxRecDepth 20000 in
theorem wj_X6_speaks_86 {post : Option dp_V → dp_H → Prop} {h0 : dp_H} (s : dp_Z) (v1 v2 v3 v4 t0 : Int32) (o : ((dp_Z × Int32 × Int32) ⊕ (dp_Z × Int32))) (h : jj_X6_speaks_86 s v1 v2 v3 v4 t0 = some o) (hk : dp_LK (fun x : (dp_Z × Int32 × Int32) => dp_W 1 mX6_speaks false h0 0 0 post 0 0 (12, [some (.inr (some 0)), some (.inl v1), some (.inl v2), some (.inl x.2.1), some (.inl x.2.2), none], [], (hM x.1))) (fun x : (dp_Z × Int32) => dp_W 1 mX6_speaks false h0 0 0 post 0 0 (142, [none, none, none, some (.inl x.2), none, none], [], (hM x.1))) o) : dp_W 1 mX6_speaks false h0 0 0 post 0 0 (86, [some (.inr (some 0)), some (.inl v1), some (.inl v2), some (.inl v3), some (.inl v4), none], [.inl t0], (hM s)) := by
  unfold jj_X6_speaks_86 at h
  refine dp_blk okX6_speaks 3 (S' := (91, [some (.inr (some 0)), some (.inl v1), some (.inl v2), some (.inl v3), some (.inl v4), some (.inl t0)], [.inl v4, .inr (some 0)], (hM s))) rfl ?_
  obtain ⟨x4, hc, h⟩ := dp_bd_inv h
  refine dp_cV okX6_speaks okX6_isHonest (as := [.inl v4]) (r := []) rfl lk_NearLiarsModel_112 npX6_isHonest (c_X6_isHonest s v4 x4 hc) rfl rfl rfl rfl (Nat.le_of_ble_eq_true rfl) (Nat.le_of_ble_eq_true rfl) (Nat.le_refl _) (Nat.le_refl _) ?_
  refine dp_blk okX6_speaks 0 (S' := (94, [some (.inr (some 0)), some (.inl v1), some (.inl v2), some (.inl v3), some (.inl v4), some (.inl t0)], [.inl x4], (hM s))) rfl ?_
  refine dp_if0 okX6_speaks rfl (fun (c : x4 = (0 : Int32)) => ?_) (fun (c : ¬ x4 = (0 : Int32)) => ?_)
  · have h := dp_ip c h
    refine dp_blk okX6_speaks 0 (S' := (136, [some (.inr (some 0)), some (.inl v1), some (.inl v2), some (.inl v3), some (.inl v4), some (.inl t0)], [], (hM s))) rfl ?_
    refine dp_fg [true, true, true, true, true, false] (L' := [some (.inr (some 0)), some (.inl v1), some (.inl v2), some (.inl v3), some (.inl v4), none]) rfl rfl ?_
    exact wj_X6_speaks_136 s v1 v2 v3 v4 _ h hk
  · have h := dp_ic c h
    refine dp_blk okX6_speaks 3 (S' := (103, [some (.inr (some 0)), some (.inl v1), some (.inl v2), some (.inl v3), some (.inl v4), some (.inl t0)], [.inl v4, .inr (some 4)], (hM s))) rfl ?_
    obtain ⟨hi, h⟩ := dp_ite h
    refine dp_ial (g := (s.2 3)) okX6_speaks rfl rfl (dp_inb_in hi) ?_
    refine dp_blk okX6_speaks 1 (S' := (106, [some (.inr (some 0)), some (.inl v1), some (.inl v2), some (.inl v3), some (.inl v4), some (.inl t0)], [.inl (-9 : Int32), .inl ((s.2 3) (v4).toNatClampNeg)], (hM s))) rfl ?_
    refine dp_if okX6_speaks rfl (fun (c : ¬ ((s.2 3) (v4).toNatClampNeg) = (-9 : Int32)) => ?_) (fun (c : ((s.2 3) (v4).toNatClampNeg) = (-9 : Int32)) => ?_)
    · have h := dp_ic c h
      refine dp_blk okX6_speaks 0 (S' := (136, [some (.inr (some 0)), some (.inl v1), some (.inl v2), some (.inl v3), some (.inl v4), some (.inl t0)], [], (hM s))) rfl ?_
      refine dp_fg [true, true, true, true, true, false] (L' := [some (.inr (some 0)), some (.inl v1), some (.inl v2), some (.inl v3), some (.inl v4), none]) rfl rfl ?_
      exact wj_X6_speaks_136 s v1 v2 v3 v4 _ h hk
    · have h := dp_ip c h
      refine dp_blk okX6_speaks 1 (S' := (111, [some (.inr (some 0)), some (.inl v1), some (.inl v2), some (.inl v3), some (.inl v4), some (.inl t0)], [.inl t0], (hM s))) rfl ?_
      refine dp_if0 okX6_speaks rfl (fun (c : t0 = (0 : Int32)) => ?_) (fun (c : ¬ t0 = (0 : Int32)) => ?_)
      · have h := dp_ip c h
        refine dp_blk okX6_speaks 0 (S' := (136, [some (.inr (some 0)), some (.inl v1), some (.inl v2), some (.inl v3), some (.inl v4), some (.inl t0)], [], (hM s))) rfl ?_
        refine dp_fg [true, true, true, true, true, false] (L' := [some (.inr (some 0)), some (.inl v1), some (.inl v2), some (.inl v3), some (.inl v4), none]) rfl rfl ?_
        exact wj_X6_speaks_136 s v1 v2 v3 v4 _ h hk
      · have h := dp_ic c h
        refine dp_blk okX6_speaks 4 (S' := (121, [some (.inr (some 0)), some (.inl v1), some (.inl v2), some (.inl v3), some (.inl v4), some (.inl t0)], [.inl v2, .inl v4, .inr (some 4)], (hM s))) rfl ?_
        obtain ⟨hi, h⟩ := dp_ite h
        obtain ⟨s5, hs, h⟩ := dp_bd_inv h
        have hs := Option.some.inj hs
        refine dp_iase (g := (s.2 3)) okX6_speaks rfl rfl (dp_inb_in hi) ((ahM_3 s _).trans (congrArg hM hs)) ?_
        refine dp_blk okX6_speaks 5 (S' := (132, [some (.inr (some 0)), some (.inl v1), some (.inl v2), some (.inl v3), some (.inl v4), some (.inl t0)], [.inl (s5.1 7), .inl v4, .inr (some 5)], (hM s5))) rfl ?_
        obtain ⟨hi, h⟩ := dp_ite h
        obtain ⟨s6, hs, h⟩ := dp_bd_inv h
        have hs := Option.some.inj hs
        refine dp_iase (g := (s5.2 4)) okX6_speaks rfl rfl (dp_inb_in hi) ((ahM_4 s5 _).trans (congrArg hM hs)) ?_
        refine dp_blk okX6_speaks 1 (S' := (136, [some (.inr (some 0)), some (.inl v1), some (.inl v2), some (.inl (v3 + (1 : Int32))), some (.inl v4), some (.inl t0)], [], (hM s6))) rfl ?_
        refine dp_fg [true, true, true, true, true, false] (L' := [some (.inr (some 0)), some (.inl v1), some (.inl v2), some (.inl (v3 + (1 : Int32))), some (.inl v4), none]) rfl rfl ?_
        exact wj_X6_speaks_136 s6 v1 v2 (v3 + (1 : Int32)) v4 _ h hk
def jj_X6_speaks_81 (s : dp_Z) (v1 v2 v3 v4 : Int32) : Option ((dp_Z × Int32 × Int32) ⊕ (dp_Z × Int32)) := (jj_X6_speaks_86 s v1 v2 v3 v4 (1 : Int32))
set_option maxHeartbeats 1000000 in
set_option maxRecDepth 20000 in
theorem wj_X6_speaks_81 {post : Option dp_V → dp_H → Prop} {h0 : dp_H} (s : dp_Z) (v1 v2 v3 v4 : Int32) (o : ((dp_Z × Int32 × Int32) ⊕ (dp_Z × Int32))) (h : jj_X6_speaks_81 s v1 v2 v3 v4 = some o) (hk : dp_LK (fun x : (dp_Z × Int32 × Int32) => dp_W 1 mX6_speaks false h0 0 0 post 0 0 (12, [some (.inr (some 0)), some (.inl v1), some (.inl v2), some (.inl x.2.1), some (.inl x.2.2), none], [], (hM x.1))) (fun x : (dp_Z × Int32) => dp_W 1 mX6_speaks false h0 0 0 post 0 0 (142, [none, none, none, some (.inl x.2), none, none], [], (hM x.1))) o) : dp_W 1 mX6_speaks false h0 0 0 post 0 0 (81, [some (.inr (some 0)), some (.inl v1), some (.inl v2), some (.inl v3), some (.inl v4), none], [], (hM s)) := by
  unfold jj_X6_speaks_81 at h
  refine dp_blk okX6_speaks 2 (S' := (86, [some (.inr (some 0)), some (.inl v1), some (.inl v2), some (.inl v3), some (.inl v4), none], [.inl (1 : Int32)], (hM s))) rfl ?_
  exact wj_X6_speaks_86 s v1 v2 v3 v4 (1 : Int32) _ h hk
def jb_X6_speaks_12 (v1 v2 : Int32) (x : (dp_Z × Int32 × Int32)) : Option ((dp_Z × Int32 × Int32) ⊕ (dp_Z × Int32)) := (if (x.1.1 0) ≤ x.2.2 then (some (.inr (x.1, x.2.1))) else (if dp_inb v1 12 = true then (dp_bd (j_X6_has ((x.1.2 0) (v1).toNatClampNeg) x.2.2) fun x2 => (if x2 = (0 : Int32) then (jj_X6_speaks_136 x.1 v1 v2 x.2.1 x.2.2) else (if dp_inb (((4 : Int32) * x.2.2) + v2) 48 = true then (if dp_inb (((4 : Int32) * x.2.2) + v2) 48 = true then (dp_bd (some (dp_sr x.1 6 (upd (x.1.2 6) ((((4 : Int32) * x.2.2) + v2)).toNatClampNeg (((x.1.2 6) ((((4 : Int32) * x.2.2) + v2)).toNatClampNeg) ||| ((1 : Int32) <<< (v1 &&& 31)))))) fun s3 => (if v1 = (s3.1 3) then (jj_X6_speaks_81 s3 v1 v2 x.2.1 x.2.2) else (if dp_inb (((4 : Int32) * x.2.2) + v2) 48 = true then (dp_bd (j_X6_size ((s3.2 6) ((((4 : Int32) * x.2.2) + v2)).toNatClampNeg)) fun x7 => (if x7 < (s3.1 5) then (jj_X6_speaks_86 s3 v1 v2 x.2.1 x.2.2 (0 : Int32)) else (jj_X6_speaks_81 s3 v1 v2 x.2.1 x.2.2))) else none))) else none) else none))) else none))
set_option maxHeartbeats 1000000 in
set_option maxRecDepth 20000 in
theorem wl_X6_speaks_12 {post : Option dp_V → dp_H → Prop} {h0 : dp_H} (v1 v2 : Int32) (x : (dp_Z × Int32 × Int32)) (o : ((dp_Z × Int32 × Int32) ⊕ (dp_Z × Int32))) (h : jb_X6_speaks_12 v1 v2 x = some o) (hk : dp_LK (fun x : (dp_Z × Int32 × Int32) => dp_W 1 mX6_speaks false h0 0 0 post 0 0 (12, [some (.inr (some 0)), some (.inl v1), some (.inl v2), some (.inl x.2.1), some (.inl x.2.2), none], [], (hM x.1))) (fun x : (dp_Z × Int32) => dp_W 1 mX6_speaks false h0 0 0 post 0 0 (142, [none, none, none, some (.inl x.2), none, none], [], (hM x.1))) o) : dp_W 1 mX6_speaks false h0 0 0 post 0 0 (12, [some (.inr (some 0)), some (.inl v1), some (.inl v2), some (.inl x.2.1), some (.inl x.2.2), none], [], (hM x.1)) := by
  unfold jb_X6_speaks_12 at h
  refine dp_blk okX6_speaks 3 (S' := (18, [some (.inr (some 0)), some (.inl v1), some (.inl v2), some (.inl x.2.1), some (.inl x.2.2), none], [.inl (x.1.1 0), .inl x.2.2], (hM x.1))) rfl ?_
  refine dp_if okX6_speaks rfl (fun (c : (x.1.1 0) ≤ x.2.2) => ?_) (fun (c : ¬ (x.1.1 0) ≤ x.2.2) => ?_)
  · have h := dp_ip c h
    refine dp_blk okX6_speaks 0 (S' := (142, [some (.inr (some 0)), some (.inl v1), some (.inl v2), some (.inl x.2.1), some (.inl x.2.2), none], [], (hM x.1))) rfl ?_
    cases h
    refine dp_fg [false, false, false, true, false, false] (L' := [none, none, none, some (.inl x.2.1), none, none]) rfl rfl ?_
    exact hk
  · have h := dp_ic c h
    refine dp_blk okX6_speaks 3 (S' := (26, [some (.inr (some 0)), some (.inl v1), some (.inl v2), some (.inl x.2.1), some (.inl x.2.2), none], [.inl v1, .inr (some 1)], (hM x.1))) rfl ?_
    obtain ⟨hi, h⟩ := dp_ite h
    refine dp_ial (g := (x.1.2 0)) okX6_speaks rfl rfl (dp_inb_in hi) ?_
    refine dp_blk okX6_speaks 1 (S' := (29, [some (.inr (some 0)), some (.inl v1), some (.inl v2), some (.inl x.2.1), some (.inl x.2.2), none], [.inl x.2.2, .inl ((x.1.2 0) (v1).toNatClampNeg)], (hM x.1))) rfl ?_
    obtain ⟨x2, hc, h⟩ := dp_bd_inv h
    refine dp_cS okX6_speaks okX6_has (as := [.inl ((x.1.2 0) (v1).toNatClampNeg), .inl x.2.2]) (r := []) rfl lk_NearLiarsModel_93 npX6_has (c_X6_has (hM x.1) ((x.1.2 0) (v1).toNatClampNeg) x.2.2 x2 hc) rfl (Nat.le_of_ble_eq_true rfl) (Nat.le_of_ble_eq_true rfl) (Nat.le_refl _) (Nat.le_refl _) ?_
    refine dp_blk okX6_speaks 0 (S' := (32, [some (.inr (some 0)), some (.inl v1), some (.inl v2), some (.inl x.2.1), some (.inl x.2.2), none], [.inl x2], (hM x.1))) rfl ?_
    refine dp_if0 okX6_speaks rfl (fun (c : x2 = (0 : Int32)) => ?_) (fun (c : ¬ x2 = (0 : Int32)) => ?_)
    · have h := dp_ip c h
      refine dp_blk okX6_speaks 0 (S' := (136, [some (.inr (some 0)), some (.inl v1), some (.inl v2), some (.inl x.2.1), some (.inl x.2.2), none], [], (hM x.1))) rfl ?_
      exact wj_X6_speaks_136 x.1 v1 v2 x.2.1 x.2.2 _ h hk
    · have h := dp_ic c h
      refine dp_blk okX6_speaks 8 (S' := (46, [some (.inr (some 0)), some (.inl v1), some (.inl v2), some (.inl x.2.1), some (.inl x.2.2), none], [.inl (((4 : Int32) * x.2.2) + v2), .inr (some 7), .inl (((4 : Int32) * x.2.2) + v2), .inr (some 7)], (hM x.1))) rfl ?_
      obtain ⟨hi, h⟩ := dp_ite h
      refine dp_ial (g := (x.1.2 6)) okX6_speaks rfl rfl (dp_inb_in hi) ?_
      refine dp_blk okX6_speaks 4 (S' := (51, [some (.inr (some 0)), some (.inl v1), some (.inl v2), some (.inl x.2.1), some (.inl x.2.2), none], [.inl (((x.1.2 6) ((((4 : Int32) * x.2.2) + v2)).toNatClampNeg) ||| ((1 : Int32) <<< (v1 &&& 31))), .inl (((4 : Int32) * x.2.2) + v2), .inr (some 7)], (hM x.1))) rfl ?_
      obtain ⟨hi, h⟩ := dp_ite h
      obtain ⟨s3, hs, h⟩ := dp_bd_inv h
      have hs := Option.some.inj hs
      refine dp_iase (g := (x.1.2 6)) okX6_speaks rfl rfl (dp_inb_in hi) ((ahM_6 x.1 _).trans (congrArg hM hs)) ?_
      refine dp_blk okX6_speaks 3 (S' := (57, [some (.inr (some 0)), some (.inl v1), some (.inl v2), some (.inl x.2.1), some (.inl x.2.2), none], [.inl (s3.1 3), .inl v1], (hM s3))) rfl ?_
      refine dp_if okX6_speaks rfl (fun (c : v1 = (s3.1 3)) => ?_) (fun (c : ¬ v1 = (s3.1 3)) => ?_)
      · have h := dp_ip c h
        refine dp_blk okX6_speaks 0 (S' := (81, [some (.inr (some 0)), some (.inl v1), some (.inl v2), some (.inl x.2.1), some (.inl x.2.2), none], [], (hM s3))) rfl ?_
        exact wj_X6_speaks_81 s3 v1 v2 x.2.1 x.2.2 _ h hk
      · have h := dp_ic c h
        refine dp_blk okX6_speaks 7 (S' := (70, [some (.inr (some 0)), some (.inl v1), some (.inl v2), some (.inl x.2.1), some (.inl x.2.2), none], [.inl (((4 : Int32) * x.2.2) + v2), .inr (some 7)], (hM s3))) rfl ?_
        obtain ⟨hi, h⟩ := dp_ite h
        refine dp_ial (g := (s3.2 6)) okX6_speaks rfl rfl (dp_inb_in hi) ?_
        refine dp_blk okX6_speaks 0 (S' := (71, [some (.inr (some 0)), some (.inl v1), some (.inl v2), some (.inl x.2.1), some (.inl x.2.2), none], [.inl ((s3.2 6) ((((4 : Int32) * x.2.2) + v2)).toNatClampNeg)], (hM s3))) rfl ?_
        obtain ⟨x7, hc, h⟩ := dp_bd_inv h
        refine dp_cS okX6_speaks okX6_size (as := [.inl ((s3.2 6) ((((4 : Int32) * x.2.2) + v2)).toNatClampNeg)]) (r := []) rfl lk_NearLiarsModel_115 npX6_size (c_X6_size (hM s3) ((s3.2 6) ((((4 : Int32) * x.2.2) + v2)).toNatClampNeg) x7 hc) rfl (Nat.le_of_ble_eq_true rfl) (Nat.le_of_ble_eq_true rfl) (Nat.le_refl _) (Nat.le_refl _) ?_
        refine dp_blk okX6_speaks 2 (S' := (78, [some (.inr (some 0)), some (.inl v1), some (.inl v2), some (.inl x.2.1), some (.inl x.2.2), none], [.inl (s3.1 5), .inl x7], (hM s3))) rfl ?_
        refine dp_if okX6_speaks rfl (fun (c : x7 < (s3.1 5)) => ?_) (fun (c : ¬ x7 < (s3.1 5)) => ?_)
        · have h := dp_ip c h
          refine dp_blk okX6_speaks 1 (S' := (86, [some (.inr (some 0)), some (.inl v1), some (.inl v2), some (.inl x.2.1), some (.inl x.2.2), none], [.inl (0 : Int32)], (hM s3))) rfl ?_
          exact wj_X6_speaks_86 s3 v1 v2 x.2.1 x.2.2 (0 : Int32) _ h hk
        · have h := dp_ic c h
          refine dp_blk okX6_speaks 0 (S' := (81, [some (.inr (some 0)), some (.inl v1), some (.inl v2), some (.inl x.2.1), some (.inl x.2.2), none], [], (hM s3))) rfl ?_
          exact wj_X6_speaks_81 s3 v1 v2 x.2.1 x.2.2 _ h hk
def j_X6_speaks (s : dp_Z) (v1 v2 : Int32) : Option (Int32 × dp_Z) := (if dp_inb v1 12 = true then (dp_bd (some (dp_sr s 5 (upd (s.2 5) (v1).toNatClampNeg ((1 : Int32) &&& 1)))) fun s1 => (dp_bd (dp_loop (jb_X6_speaks_12 v1 v2) dp_F (s1, (0 : Int32), (0 : Int32))) fun x8 => (some (x8.2, x8.1)))) else none)
set_option maxHeartbeats 1000000 in
set_option maxRecDepth 20000 in
theorem we_X6_speaks {post : Option dp_V → dp_H → Prop} {h0 : dp_H} (s : dp_Z) (v1 v2 : Int32) (o : (Int32 × dp_Z)) (h : j_X6_speaks s v1 v2 = some o) (hk : post (some (.inl o.1)) (hM o.2)) : dp_W 1 mX6_speaks false h0 0 0 post 0 0 (0, [some (.inr (some 0)), some (.inl v1), some (.inl v2), none, none, none], [], (hM s)) := by
  unfold j_X6_speaks at h
  refine dp_blk okX6_speaks 6 (S' := (8, [some (.inr (some 0)), some (.inl v1), some (.inl v2), some (.inl (0 : Int32)), none, none], [.inl (1 : Int32), .inl v1, .inr (some 6)], (hM s))) rfl ?_
  obtain ⟨hi, h⟩ := dp_ite h
  obtain ⟨s1, hs, h⟩ := dp_bd_inv h
  have hs := Option.some.inj hs
  refine dp_base (g := (s.2 5)) okX6_speaks rfl rfl (dp_inb_in hi) ((ahM_5 s _).trans (congrArg hM hs)) ?_
  refine dp_blk okX6_speaks 2 (S' := (12, [some (.inr (some 0)), some (.inl v1), some (.inl v2), some (.inl (0 : Int32)), some (.inl (0 : Int32)), none], [], (hM s1))) rfl ?_
  obtain ⟨x8, hl, h⟩ := dp_bd_inv h
  refine dp_loopW (wl_X6_speaks_12 v1 v2) dp_F (s1, (0 : Int32), (0 : Int32)) x8 hl ?_
  show dp_W 1 mX6_speaks false h0 0 0 post 0 0 (142, [none, none, none, some (.inl x8.2), none, none], [], (hM x8.1))
  refine dp_blk okX6_speaks 1 (S' := (143, [none, none, none, some (.inl x8.2), none, none], [.inl x8.2], (hM x8.1))) rfl ?_
  cases h
  exact dp_iret okX6_speaks rfl rfl hk
theorem c_X6_speaks (s : dp_Z) (v1 v2 : Int32) (o : (Int32 × dp_Z)) (h : j_X6_speaks s v1 v2 = some o) : dp_C 1 mX6_speaks false [.inr (some 0), .inl v1, .inl v2] (hM s) 0 0 (dp_R (some (.inl o.1)) (hM o.2)) := dp_C_of okX6_speaks [some (.inr (some 0)), some (.inl v1), some (.inl v2), none, none, none] rfl (Nat.le_of_ble_eq_true rfl) (we_X6_speaks s v1 v2 o h ⟨rfl, rfl⟩)
def jj_X6_tick_65 (s : dp_Z) (v1 v2 v3 : Int32) : Option ((dp_Z × Int32 × Int32) ⊕ (dp_Z × Int32)) := (some (.inl (s, v2, (v3 + (1 : Int32)))))
set_option maxHeartbeats 1000000 in
set_option maxRecDepth 20000 in
theorem wj_X6_tick_65 {post : Option dp_V → dp_H → Prop} {h0 : dp_H} (s : dp_Z) (v1 v2 v3 : Int32) (o : ((dp_Z × Int32 × Int32) ⊕ (dp_Z × Int32))) (h : jj_X6_tick_65 s v1 v2 v3 = some o) (hk : dp_LK (fun x : (dp_Z × Int32 × Int32) => dp_W 2 mX6_tick false h0 0 0 post 0 0 (24, [some (.inr (some 0)), some (.inl v1), some (.inl x.2.1), some (.inl x.2.2)], [], (hM x.1))) (fun x : (dp_Z × Int32) => dp_W 2 mX6_tick false h0 0 0 post 0 0 (71, [none, none, some (.inl x.2), none], [], (hM x.1))) o) : dp_W 2 mX6_tick false h0 0 0 post 0 0 (65, [some (.inr (some 0)), some (.inl v1), some (.inl v2), some (.inl v3)], [], (hM s)) := by
  unfold jj_X6_tick_65 at h
  refine dp_blk okX6_tick 2 (S' := (24, [some (.inr (some 0)), some (.inl v1), some (.inl v2), some (.inl (v3 + (1 : Int32)))], [], (hM s))) rfl ?_
  cases h
  exact hk
def jb_X6_tick_24 (v1 : Int32) (x : (dp_Z × Int32 × Int32)) : Option ((dp_Z × Int32 × Int32) ⊕ (dp_Z × Int32)) := (if (x.1.1 0) ≤ x.2.2 then (some (.inr (x.1, x.2.1))) else (if dp_inb x.2.2 12 = true then (if ((x.1.2 2) (x.2.2).toNatClampNeg) = v1 then (dp_bd (j_X6_says x.1 x.2.2) fun x2 => (if x2 = (-9 : Int32) then (jj_X6_tick_65 x.1 v1 x.2.1 x.2.2) else (dp_bd (j_X6_says x.1 x.2.2) fun x3 => (dp_bd (j_X6_speaks x.1 x.2.2 x3) fun x4 => (jj_X6_tick_65 x4.2 v1 (x.2.1 + x4.1) x.2.2))))) else (jj_X6_tick_65 x.1 v1 x.2.1 x.2.2)) else none))
set_option maxHeartbeats 1000000 in
set_option maxRecDepth 20000 in
theorem wl_X6_tick_24 {post : Option dp_V → dp_H → Prop} {h0 : dp_H} (v1 : Int32) (x : (dp_Z × Int32 × Int32)) (o : ((dp_Z × Int32 × Int32) ⊕ (dp_Z × Int32))) (h : jb_X6_tick_24 v1 x = some o) (hk : dp_LK (fun x : (dp_Z × Int32 × Int32) => dp_W 2 mX6_tick false h0 0 0 post 0 0 (24, [some (.inr (some 0)), some (.inl v1), some (.inl x.2.1), some (.inl x.2.2)], [], (hM x.1))) (fun x : (dp_Z × Int32) => dp_W 2 mX6_tick false h0 0 0 post 0 0 (71, [none, none, some (.inl x.2), none], [], (hM x.1))) o) : dp_W 2 mX6_tick false h0 0 0 post 0 0 (24, [some (.inr (some 0)), some (.inl v1), some (.inl x.2.1), some (.inl x.2.2)], [], (hM x.1)) := by
  unfold jb_X6_tick_24 at h
  refine dp_blk okX6_tick 3 (S' := (29, [some (.inr (some 0)), some (.inl v1), some (.inl x.2.1), some (.inl x.2.2)], [.inl (x.1.1 0), .inl x.2.2], (hM x.1))) rfl ?_
  refine dp_if okX6_tick rfl (fun (c : (x.1.1 0) ≤ x.2.2) => ?_) (fun (c : ¬ (x.1.1 0) ≤ x.2.2) => ?_)
  · have h := dp_ip c h
    refine dp_blk okX6_tick 0 (S' := (71, [some (.inr (some 0)), some (.inl v1), some (.inl x.2.1), some (.inl x.2.2)], [], (hM x.1))) rfl ?_
    cases h
    refine dp_fg [false, false, true, false] (L' := [none, none, some (.inl x.2.1), none]) rfl rfl ?_
    exact hk
  · have h := dp_ic c h
    refine dp_blk okX6_tick 3 (S' := (37, [some (.inr (some 0)), some (.inl v1), some (.inl x.2.1), some (.inl x.2.2)], [.inl x.2.2, .inr (some 3)], (hM x.1))) rfl ?_
    obtain ⟨hi, h⟩ := dp_ite h
    refine dp_ial (g := (x.1.2 2)) okX6_tick rfl rfl (dp_inb_in hi) ?_
    refine dp_blk okX6_tick 1 (S' := (39, [some (.inr (some 0)), some (.inl v1), some (.inl x.2.1), some (.inl x.2.2)], [.inl v1, .inl ((x.1.2 2) (x.2.2).toNatClampNeg)], (hM x.1))) rfl ?_
    refine dp_if okX6_tick rfl (fun (c : ¬ ((x.1.2 2) (x.2.2).toNatClampNeg) = v1) => ?_) (fun (c : ((x.1.2 2) (x.2.2).toNatClampNeg) = v1) => ?_)
    · have h := dp_ic c h
      refine dp_blk okX6_tick 0 (S' := (65, [some (.inr (some 0)), some (.inl v1), some (.inl x.2.1), some (.inl x.2.2)], [], (hM x.1))) rfl ?_
      exact wj_X6_tick_65 x.1 v1 x.2.1 x.2.2 _ h hk
    · have h := dp_ip c h
      refine dp_blk okX6_tick 2 (S' := (44, [some (.inr (some 0)), some (.inl v1), some (.inl x.2.1), some (.inl x.2.2)], [.inl x.2.2, .inr (some 0)], (hM x.1))) rfl ?_
      obtain ⟨x2, hc, h⟩ := dp_bd_inv h
      refine dp_cV okX6_tick okX6_says (as := [.inl x.2.2]) (r := []) rfl lk_NearLiarsModel_119 npX6_says (c_X6_says x.1 x.2.2 x2 hc) rfl rfl rfl rfl (Nat.le_of_ble_eq_true rfl) (Nat.le_of_ble_eq_true rfl) (Nat.le_refl _) (Nat.le_refl _) ?_
      refine dp_blk okX6_tick 1 (S' := (49, [some (.inr (some 0)), some (.inl v1), some (.inl x.2.1), some (.inl x.2.2)], [.inl (-9 : Int32), .inl x2], (hM x.1))) rfl ?_
      refine dp_if okX6_tick rfl (fun (c : x2 = (-9 : Int32)) => ?_) (fun (c : ¬ x2 = (-9 : Int32)) => ?_)
      · have h := dp_ip c h
        refine dp_blk okX6_tick 0 (S' := (65, [some (.inr (some 0)), some (.inl v1), some (.inl x.2.1), some (.inl x.2.2)], [], (hM x.1))) rfl ?_
        exact wj_X6_tick_65 x.1 v1 x.2.1 x.2.2 _ h hk
      · have h := dp_ic c h
        refine dp_blk okX6_tick 5 (S' := (57, [some (.inr (some 0)), some (.inl v1), some (.inl x.2.1), some (.inl x.2.2)], [.inl x.2.2, .inr (some 0), .inl x.2.2, .inr (some 0), .inl x.2.1], (hM x.1))) rfl ?_
        obtain ⟨x3, hc, h⟩ := dp_bd_inv h
        refine dp_cV okX6_tick okX6_says (as := [.inl x.2.2]) (r := [.inl x.2.2, .inr (some 0), .inl x.2.1]) rfl lk_NearLiarsModel_119 npX6_says (c_X6_says x.1 x.2.2 x3 hc) rfl rfl rfl rfl (Nat.le_of_ble_eq_true rfl) (Nat.le_of_ble_eq_true rfl) (Nat.le_refl _) (Nat.le_refl _) ?_
        refine dp_blk okX6_tick 0 (S' := (60, [some (.inr (some 0)), some (.inl v1), some (.inl x.2.1), some (.inl x.2.2)], [.inl x3, .inl x.2.2, .inr (some 0), .inl x.2.1], (hM x.1))) rfl ?_
        obtain ⟨x4, hc, h⟩ := dp_bd_inv h
        refine dp_cV okX6_tick okX6_speaks (as := [.inl x.2.2, .inl x3]) (r := [.inl x.2.1]) rfl lk_NearLiarsModel_122 npX6_speaks (c_X6_speaks x.1 x.2.2 x3 x4 hc) rfl rfl rfl rfl (Nat.le_of_ble_eq_true rfl) (Nat.le_of_ble_eq_true rfl) (Nat.le_refl _) (Nat.le_refl _) ?_
        refine dp_blk okX6_tick 2 (S' := (65, [some (.inr (some 0)), some (.inl v1), some (.inl (x.2.1 + x4.1)), some (.inl x.2.2)], [], (hM x4.2))) rfl ?_
        exact wj_X6_tick_65 x4.2 v1 (x.2.1 + x4.1) x.2.2 _ h hk
def j_X6_tick (s : dp_Z) : Option (Int32 × dp_Z) := (if (s.1 6) = 0 then none else (dp_bd (some (dp_sf s 7 ((s.1 7) + (1 : Int32)))) fun s1 => (dp_bd (dp_loop (jb_X6_tick_24 ((s.1 7) - (s.1 7) / (s.1 6) * (s.1 6))) dp_F (s1, (0 : Int32), (0 : Int32))) fun x5 => (some (x5.2, x5.1)))))
set_option maxHeartbeats 1000000 in
set_option maxRecDepth 20000 in
theorem we_X6_tick {post : Option dp_V → dp_H → Prop} {h0 : dp_H} (s : dp_Z) (o : (Int32 × dp_Z)) (h : j_X6_tick s = some o) (hk : post (some (.inl o.1)) (hM o.2)) : dp_W 2 mX6_tick false h0 0 0 post 0 0 (0, [some (.inr (some 0)), none, none, none], [], (hM s)) := by
  unfold j_X6_tick at h
  refine dp_blk okX6_tick 4 (S' := (8, [some (.inr (some 0)), none, none, none], [.inl (s.1 6), .inl (s.1 7)], (hM s))) rfl ?_
  obtain ⟨hi, h⟩ := dp_ite0 h
  refine dp_irem okX6_tick rfl hi ?_
  refine dp_blk okX6_tick 8 (S' := (19, [some (.inr (some 0)), some (.inl ((s.1 7) - (s.1 7) / (s.1 6) * (s.1 6))), some (.inl (0 : Int32)), none], [.inl ((s.1 7) + (1 : Int32)), .inr (some 0)], (hM s))) rfl ?_
  obtain ⟨s1, hs, h⟩ := dp_bd_inv h
  have hs := Option.some.inj hs
  refine dp_pfe okX6_tick rfl (by decide) (qhM_0 s) (Nat.le_of_ble_eq_true rfl) ((phM_7 s ((s.1 7) + (1 : Int32))).trans (congrArg hM hs)) ?_
  refine dp_blk okX6_tick 2 (S' := (24, [some (.inr (some 0)), some (.inl ((s.1 7) - (s.1 7) / (s.1 6) * (s.1 6))), some (.inl (0 : Int32)), some (.inl (0 : Int32))], [], (hM s1))) rfl ?_
  obtain ⟨x5, hl, h⟩ := dp_bd_inv h
  refine dp_loopW (wl_X6_tick_24 ((s.1 7) - (s.1 7) / (s.1 6) * (s.1 6))) dp_F (s1, (0 : Int32), (0 : Int32)) x5 hl ?_
  show dp_W 2 mX6_tick false h0 0 0 post 0 0 (71, [none, none, some (.inl x5.2), none], [], (hM x5.1))
  refine dp_blk okX6_tick 1 (S' := (72, [none, none, some (.inl x5.2), none], [.inl x5.2], (hM x5.1))) rfl ?_
  cases h
  exact dp_iret okX6_tick rfl rfl hk
theorem c_X6_tick (s : dp_Z) (o : (Int32 × dp_Z)) (h : j_X6_tick s = some o) : dp_C 2 mX6_tick false [.inr (some 0)] (hM s) 0 0 (dp_R (some (.inl o.1)) (hM o.2)) := dp_C_of okX6_tick [some (.inr (some 0)), none, none, none] rfl (Nat.le_of_ble_eq_true rfl) (we_X6_tick s o h ⟨rfl, rfl⟩)
def jb_X6_ticks_17 (v1 : Int32) (x : (dp_Z × Int32 × Int32)) : Option ((dp_Z × Int32 × Int32) ⊕ (dp_Z × Int32)) := (if v1 ≤ x.2.2 then (some (.inr (x.1, x.2.1))) else (dp_bd (j_X6_tick x.1) fun x2 => (some (.inl (x2.2, (x.2.1 + x2.1), (x.2.2 + (1 : Int32)))))))
set_option maxHeartbeats 1000000 in
set_option maxRecDepth 20000 in
theorem wl_X6_ticks_17 {post : Option dp_V → dp_H → Prop} {h0 : dp_H} (v1 : Int32) (x : (dp_Z × Int32 × Int32)) (o : ((dp_Z × Int32 × Int32) ⊕ (dp_Z × Int32))) (h : jb_X6_ticks_17 v1 x = some o) (hk : dp_LK (fun x : (dp_Z × Int32 × Int32) => dp_W 3 mX6_ticks false h0 0 0 post 0 0 (17, [some (.inr (some 0)), some (.inl v1), some (.inl x.2.1), some (.inl x.2.2)], [], (hM x.1))) (fun x : (dp_Z × Int32) => dp_W 3 mX6_ticks false h0 0 0 post 0 0 (35, [none, none, some (.inl x.2), none], [], (hM x.1))) o) : dp_W 3 mX6_ticks false h0 0 0 post 0 0 (17, [some (.inr (some 0)), some (.inl v1), some (.inl x.2.1), some (.inl x.2.2)], [], (hM x.1)) := by
  unfold jb_X6_ticks_17 at h
  refine dp_blk okX6_ticks 2 (S' := (19, [some (.inr (some 0)), some (.inl v1), some (.inl x.2.1), some (.inl x.2.2)], [.inl v1, .inl x.2.2], (hM x.1))) rfl ?_
  refine dp_if okX6_ticks rfl (fun (c : v1 ≤ x.2.2) => ?_) (fun (c : ¬ v1 ≤ x.2.2) => ?_)
  · have h := dp_ip c h
    refine dp_blk okX6_ticks 0 (S' := (35, [some (.inr (some 0)), some (.inl v1), some (.inl x.2.1), some (.inl x.2.2)], [], (hM x.1))) rfl ?_
    cases h
    refine dp_fg [false, false, true, false] (L' := [none, none, some (.inl x.2.1), none]) rfl rfl ?_
    exact hk
  · have h := dp_ic c h
    refine dp_blk okX6_ticks 2 (S' := (24, [some (.inr (some 0)), some (.inl v1), some (.inl x.2.1), some (.inl x.2.2)], [.inr (some 0), .inl x.2.1], (hM x.1))) rfl ?_
    obtain ⟨x2, hc, h⟩ := dp_bd_inv h
    refine dp_cV okX6_ticks okX6_tick (as := []) (r := [.inl x.2.1]) rfl lk_NearLiarsModel_126 npX6_tick (c_X6_tick x.1 x2 hc) rfl rfl rfl rfl (Nat.le_of_ble_eq_true rfl) (Nat.le_of_ble_eq_true rfl) (Nat.le_refl _) (Nat.le_refl _) ?_
    refine dp_blk okX6_ticks 4 (S' := (17, [some (.inr (some 0)), some (.inl v1), some (.inl (x.2.1 + x2.1)), some (.inl (x.2.2 + (1 : Int32)))], [], (hM x2.2))) rfl ?_
    cases h
    exact hk
def j_X6_ticks (s : dp_Z) (v1 : Int32) : Option (Int32 × dp_Z) := (dp_bd (j_X6_within v1 (0 : Int32) (100 : Int32)) fun x1 => (if x1 = (0 : Int32) then (some ((-2 : Int32), s)) else (dp_bd (dp_loop (jb_X6_ticks_17 v1) dp_F (s, (0 : Int32), (0 : Int32))) fun x3 => (some (x3.2, x3.1)))))
set_option maxHeartbeats 1000000 in
set_option maxRecDepth 20000 in
theorem we_X6_ticks {post : Option dp_V → dp_H → Prop} {h0 : dp_H} (s : dp_Z) (v1 : Int32) (o : (Int32 × dp_Z)) (h : j_X6_ticks s v1 = some o) (hk : post (some (.inl o.1)) (hM o.2)) : dp_W 3 mX6_ticks false h0 0 0 post 0 0 (0, [some (.inr (some 0)), some (.inl v1), none, none], [], (hM s)) := by
  unfold j_X6_ticks at h
  refine dp_blk okX6_ticks 3 (S' := (4, [some (.inr (some 0)), some (.inl v1), none, none], [.inl (100 : Int32), .inl (0 : Int32), .inl v1], (hM s))) rfl ?_
  obtain ⟨x1, hc, h⟩ := dp_bd_inv h
  refine dp_cS okX6_ticks okX6_within (as := [.inl v1, .inl (0 : Int32), .inl (100 : Int32)]) (r := []) rfl lk_NearLiarsModel_63 npX6_within (c_X6_within (hM s) v1 (0 : Int32) (100 : Int32) x1 hc) rfl (Nat.le_of_ble_eq_true rfl) (Nat.le_of_ble_eq_true rfl) (Nat.le_refl _) (Nat.le_refl _) ?_
  refine dp_blk okX6_ticks 0 (S' := (7, [some (.inr (some 0)), some (.inl v1), none, none], [.inl x1], (hM s))) rfl ?_
  refine dp_if0 okX6_ticks rfl (fun (c : ¬ x1 = (0 : Int32)) => ?_) (fun (c : x1 = (0 : Int32)) => ?_)
  · have h := dp_ic c h
    refine dp_blk okX6_ticks 4 (S' := (17, [some (.inr (some 0)), some (.inl v1), some (.inl (0 : Int32)), some (.inl (0 : Int32))], [], (hM s))) rfl ?_
    obtain ⟨x3, hl, h⟩ := dp_bd_inv h
    refine dp_loopW (wl_X6_ticks_17 v1) dp_F (s, (0 : Int32), (0 : Int32)) x3 hl ?_
    show dp_W 3 mX6_ticks false h0 0 0 post 0 0 (35, [none, none, some (.inl x3.2), none], [], (hM x3.1))
    refine dp_blk okX6_ticks 1 (S' := (36, [none, none, some (.inl x3.2), none], [.inl x3.2], (hM x3.1))) rfl ?_
    cases h
    exact dp_iret okX6_ticks rfl rfl hk
  · have h := dp_ip c h
    refine dp_blk okX6_ticks 1 (S' := (12, [some (.inr (some 0)), some (.inl v1), none, none], [.inl (-2 : Int32)], (hM s))) rfl ?_
    cases h
    exact dp_iret okX6_ticks rfl rfl hk
theorem c_X6_ticks (s : dp_Z) (v1 : Int32) (o : (Int32 × dp_Z)) (h : j_X6_ticks s v1 = some o) : dp_C 3 mX6_ticks false [.inr (some 0), .inl v1] (hM s) 0 0 (dp_R (some (.inl o.1)) (hM o.2)) := dp_C_of okX6_ticks [some (.inr (some 0)), some (.inl v1), none, none] rfl (Nat.le_of_ble_eq_true rfl) (we_X6_ticks s v1 o h ⟨rfl, rfl⟩)
def jb_X6_heardBy_4 (s : dp_Z) (v1 : Int32) (x : (Int32 × Int32)) : Option ((Int32 × Int32) ⊕ Int32) := (if (4 : Int32) ≤ x.2 then (some (.inr x.1)) else (if dp_inb (((4 : Int32) * v1) + x.2) 48 = true then (dp_bd (j_X6_size ((s.2 6) ((((4 : Int32) * v1) + x.2)).toNatClampNeg)) fun x1 => (some (.inl ((x.1 + x1), (x.2 + (1 : Int32)))))) else none))
set_option maxHeartbeats 1000000 in
set_option maxRecDepth 20000 in
theorem wl_X6_heardBy_4 {post : Option dp_V → dp_H → Prop} {h0 : dp_H} (s : dp_Z) (v1 : Int32) (x : (Int32 × Int32)) (o : ((Int32 × Int32) ⊕ Int32)) (h : jb_X6_heardBy_4 s v1 x = some o) (hk : dp_LK (fun x : (Int32 × Int32) => dp_W 1 mX6_heardBy false h0 0 0 post 0 0 (4, [some (.inr (some 0)), some (.inl v1), some (.inl x.1), some (.inl x.2)], [], (hM s))) (fun x : Int32 => dp_W 1 mX6_heardBy false h0 0 0 post 0 0 (31, [none, none, some (.inl x), none], [], (hM s))) o) : dp_W 1 mX6_heardBy false h0 0 0 post 0 0 (4, [some (.inr (some 0)), some (.inl v1), some (.inl x.1), some (.inl x.2)], [], (hM s)) := by
  unfold jb_X6_heardBy_4 at h
  refine dp_blk okX6_heardBy 2 (S' := (6, [some (.inr (some 0)), some (.inl v1), some (.inl x.1), some (.inl x.2)], [.inl (4 : Int32), .inl x.2], (hM s))) rfl ?_
  refine dp_if okX6_heardBy rfl (fun (c : (4 : Int32) ≤ x.2) => ?_) (fun (c : ¬ (4 : Int32) ≤ x.2) => ?_)
  · have h := dp_ip c h
    refine dp_blk okX6_heardBy 0 (S' := (31, [some (.inr (some 0)), some (.inl v1), some (.inl x.1), some (.inl x.2)], [], (hM s))) rfl ?_
    cases h
    refine dp_fg [false, false, true, false] (L' := [none, none, some (.inl x.1), none]) rfl rfl ?_
    exact hk
  · have h := dp_ic c h
    refine dp_blk okX6_heardBy 8 (S' := (19, [some (.inr (some 0)), some (.inl v1), some (.inl x.1), some (.inl x.2)], [.inl (((4 : Int32) * v1) + x.2), .inr (some 7), .inl x.1], (hM s))) rfl ?_
    obtain ⟨hi, h⟩ := dp_ite h
    refine dp_ial (g := (s.2 6)) okX6_heardBy rfl rfl (dp_inb_in hi) ?_
    refine dp_blk okX6_heardBy 0 (S' := (20, [some (.inr (some 0)), some (.inl v1), some (.inl x.1), some (.inl x.2)], [.inl ((s.2 6) ((((4 : Int32) * v1) + x.2)).toNatClampNeg), .inl x.1], (hM s))) rfl ?_
    obtain ⟨x1, hc, h⟩ := dp_bd_inv h
    refine dp_cS okX6_heardBy okX6_size (as := [.inl ((s.2 6) ((((4 : Int32) * v1) + x.2)).toNatClampNeg)]) (r := [.inl x.1]) rfl lk_NearLiarsModel_115 npX6_size (c_X6_size (hM s) ((s.2 6) ((((4 : Int32) * v1) + x.2)).toNatClampNeg) x1 hc) rfl (Nat.le_of_ble_eq_true rfl) (Nat.le_of_ble_eq_true rfl) (Nat.le_refl _) (Nat.le_refl _) ?_
    refine dp_blk okX6_heardBy 4 (S' := (4, [some (.inr (some 0)), some (.inl v1), some (.inl (x.1 + x1)), some (.inl (x.2 + (1 : Int32)))], [], (hM s))) rfl ?_
    cases h
    exact hk
def j_X6_heardBy (s : dp_Z) (v1 : Int32) : Option Int32 := (dp_bd (dp_loop (jb_X6_heardBy_4 s v1) dp_F ((0 : Int32), (0 : Int32))) fun x2 => (some x2))
set_option maxHeartbeats 1000000 in
set_option maxRecDepth 20000 in
theorem we_X6_heardBy {post : Option dp_V → dp_H → Prop} {h0 : dp_H} (s : dp_Z) (v1 : Int32) (o : Int32) (h : j_X6_heardBy s v1 = some o) (hk : post (some (.inl o)) (hM s)) : dp_W 1 mX6_heardBy false h0 0 0 post 0 0 (0, [some (.inr (some 0)), some (.inl v1), none, none], [], (hM s)) := by
  unfold j_X6_heardBy at h
  refine dp_blk okX6_heardBy 4 (S' := (4, [some (.inr (some 0)), some (.inl v1), some (.inl (0 : Int32)), some (.inl (0 : Int32))], [], (hM s))) rfl ?_
  obtain ⟨x2, hl, h⟩ := dp_bd_inv h
  refine dp_loopW (wl_X6_heardBy_4 s v1) dp_F ((0 : Int32), (0 : Int32)) x2 hl ?_
  show dp_W 1 mX6_heardBy false h0 0 0 post 0 0 (31, [none, none, some (.inl x2), none], [], (hM s))
  refine dp_blk okX6_heardBy 1 (S' := (32, [none, none, some (.inl x2), none], [.inl x2], (hM s))) rfl ?_
  cases h
  exact dp_iret okX6_heardBy rfl rfl hk
theorem c_X6_heardBy (s : dp_Z) (v1 : Int32) (o : Int32) (h : j_X6_heardBy s v1 = some o) : dp_C 1 mX6_heardBy false [.inr (some 0), .inl v1] (hM s) 0 0 (dp_R (some (.inl o)) (hM s)) := dp_C_of okX6_heardBy [some (.inr (some 0)), some (.inl v1), none, none] rfl (Nat.le_of_ble_eq_true rfl) (we_X6_heardBy s v1 o h ⟨rfl, rfl⟩)
def j_X6_node (s : dp_Z) (v1 v2 : Int32) : Option Int32 := (dp_bd (j_X6_isNode s v1) fun x1 => (if x1 = (0 : Int32) then (some (-1 : Int32)) else (dp_bd (j_X6_within v2 (10 : Int32) (13 : Int32)) fun x2 => (if x2 = (0 : Int32) then (if v2 = (0 : Int32) then (if dp_inb v1 12 = true then (some ((s.2 2) (v1).toNatClampNeg)) else none) else (if v2 = (1 : Int32) then (if dp_inb v1 12 = true then (some ((s.2 3) (v1).toNatClampNeg)) else none) else (if v2 = (2 : Int32) then (if dp_inb v1 12 = true then (some ((s.2 4) (v1).toNatClampNeg)) else none) else (if v2 = (3 : Int32) then (dp_bd (j_X6_heardBy s v1) fun x3 => (some x3)) else (if v2 = (4 : Int32) then (if dp_inb v1 12 = true then (if ((s.2 5) (v1).toNatClampNeg) = (0 : Int32) then (some (0 : Int32)) else (some (1 : Int32))) else none) else (some (-2 : Int32))))))) else (if dp_inb ((((4 : Int32) * v1) + v2) - (10 : Int32)) 48 = true then (dp_bd (j_X6_size ((s.2 6) (((((4 : Int32) * v1) + v2) - (10 : Int32))).toNatClampNeg)) fun x4 => (some x4)) else none)))))
set_option maxHeartbeats 1000000 in
set_option maxRecDepth 20000 in
theorem we_X6_node {post : Option dp_V → dp_H → Prop} {h0 : dp_H} (s : dp_Z) (v1 v2 : Int32) (o : Int32) (h : j_X6_node s v1 v2 = some o) (hk : post (some (.inl o)) (hM s)) : dp_W 2 mX6_node false h0 0 0 post 0 0 (0, [some (.inr (some 0)), some (.inl v1), some (.inl v2)], [], (hM s)) := by
  unfold j_X6_node at h
  refine dp_blk okX6_node 2 (S' := (2, [some (.inr (some 0)), some (.inl v1), some (.inl v2)], [.inl v1, .inr (some 0)], (hM s))) rfl ?_
  obtain ⟨x1, hc, h⟩ := dp_bd_inv h
  refine dp_cV okX6_node okX6_isNode (as := [.inl v1]) (r := []) rfl lk_NearLiarsModel_86 npX6_isNode (c_X6_isNode s v1 x1 hc) rfl rfl rfl rfl (Nat.le_of_ble_eq_true rfl) (Nat.le_of_ble_eq_true rfl) (Nat.le_refl _) (Nat.le_refl _) ?_
  refine dp_blk okX6_node 0 (S' := (5, [some (.inr (some 0)), some (.inl v1), some (.inl v2)], [.inl x1], (hM s))) rfl ?_
  refine dp_if0 okX6_node rfl (fun (c : ¬ x1 = (0 : Int32)) => ?_) (fun (c : x1 = (0 : Int32)) => ?_)
  · have h := dp_ic c h
    refine dp_blk okX6_node 3 (S' := (15, [some (.inr (some 0)), some (.inl v1), some (.inl v2)], [.inl (13 : Int32), .inl (10 : Int32), .inl v2], (hM s))) rfl ?_
    obtain ⟨x2, hc, h⟩ := dp_bd_inv h
    refine dp_cS okX6_node okX6_within (as := [.inl v2, .inl (10 : Int32), .inl (13 : Int32)]) (r := []) rfl lk_NearLiarsModel_63 npX6_within (c_X6_within (hM s) v2 (10 : Int32) (13 : Int32) x2 hc) rfl (Nat.le_of_ble_eq_true rfl) (Nat.le_of_ble_eq_true rfl) (Nat.le_refl _) (Nat.le_refl _) ?_
    refine dp_blk okX6_node 0 (S' := (18, [some (.inr (some 0)), some (.inl v1), some (.inl v2)], [.inl x2], (hM s))) rfl ?_
    refine dp_if0 okX6_node rfl (fun (c : x2 = (0 : Int32)) => ?_) (fun (c : ¬ x2 = (0 : Int32)) => ?_)
    · have h := dp_ip c h
      refine dp_blk okX6_node 1 (S' := (39, [some (.inr (some 0)), some (.inl v1), some (.inl v2)], [.inl v2], (hM s))) rfl ?_
      by_cases c0 : v2 = (0 : Int32)
      · have h := dp_ip c0 h
        refine dp_swI okX6_node (tgt := 72) rfl (by rw [c0]; exact ⟨by decide, by decide, rfl, by decide⟩) ?_
        refine dp_blk okX6_node 3 (S' := (77, [some (.inr (some 0)), some (.inl v1), some (.inl v2)], [.inl v1, .inr (some 3)], (hM s))) rfl ?_
        obtain ⟨hi, h⟩ := dp_ite h
        refine dp_ial (g := (s.2 2)) okX6_node rfl rfl (dp_inb_in hi) ?_
        refine dp_blk okX6_node 0 (S' := (78, [some (.inr (some 0)), some (.inl v1), some (.inl v2)], [.inl ((s.2 2) (v1).toNatClampNeg)], (hM s))) rfl ?_
        cases h
        exact dp_iret okX6_node rfl rfl hk
      have h := dp_ic c0 h
      by_cases c1 : v2 = (1 : Int32)
      · have h := dp_ip c1 h
        refine dp_swI okX6_node (tgt := 79) rfl (by rw [c1]; exact ⟨by decide, by decide, rfl, by decide⟩) ?_
        refine dp_blk okX6_node 3 (S' := (84, [some (.inr (some 0)), some (.inl v1), some (.inl v2)], [.inl v1, .inr (some 4)], (hM s))) rfl ?_
        obtain ⟨hi, h⟩ := dp_ite h
        refine dp_ial (g := (s.2 3)) okX6_node rfl rfl (dp_inb_in hi) ?_
        refine dp_blk okX6_node 0 (S' := (85, [some (.inr (some 0)), some (.inl v1), some (.inl v2)], [.inl ((s.2 3) (v1).toNatClampNeg)], (hM s))) rfl ?_
        cases h
        exact dp_iret okX6_node rfl rfl hk
      have h := dp_ic c1 h
      by_cases c2 : v2 = (2 : Int32)
      · have h := dp_ip c2 h
        refine dp_swI okX6_node (tgt := 86) rfl (by rw [c2]; exact ⟨by decide, by decide, rfl, by decide⟩) ?_
        refine dp_blk okX6_node 3 (S' := (91, [some (.inr (some 0)), some (.inl v1), some (.inl v2)], [.inl v1, .inr (some 5)], (hM s))) rfl ?_
        obtain ⟨hi, h⟩ := dp_ite h
        refine dp_ial (g := (s.2 4)) okX6_node rfl rfl (dp_inb_in hi) ?_
        refine dp_blk okX6_node 0 (S' := (92, [some (.inr (some 0)), some (.inl v1), some (.inl v2)], [.inl ((s.2 4) (v1).toNatClampNeg)], (hM s))) rfl ?_
        cases h
        exact dp_iret okX6_node rfl rfl hk
      have h := dp_ic c2 h
      by_cases c3 : v2 = (3 : Int32)
      · have h := dp_ip c3 h
        refine dp_swI okX6_node (tgt := 93) rfl (by rw [c3]; exact ⟨by decide, by decide, rfl, by decide⟩) ?_
        refine dp_blk okX6_node 2 (S' := (95, [some (.inr (some 0)), some (.inl v1), some (.inl v2)], [.inl v1, .inr (some 0)], (hM s))) rfl ?_
        obtain ⟨x3, hc, h⟩ := dp_bd_inv h
        refine dp_cV okX6_node okX6_heardBy (as := [.inl v1]) (r := []) rfl lk_NearLiarsModel_130 npX6_heardBy (c_X6_heardBy s v1 x3 hc) rfl rfl rfl rfl (Nat.le_of_ble_eq_true rfl) (Nat.le_of_ble_eq_true rfl) (Nat.le_refl _) (Nat.le_refl _) ?_
        refine dp_blk okX6_node 0 (S' := (98, [some (.inr (some 0)), some (.inl v1), some (.inl v2)], [.inl x3], (hM s))) rfl ?_
        cases h
        exact dp_iret okX6_node rfl rfl hk
      have h := dp_ic c3 h
      by_cases c4 : v2 = (4 : Int32)
      · have h := dp_ip c4 h
        refine dp_swI okX6_node (tgt := 99) rfl (by rw [c4]; exact ⟨by decide, by decide, rfl, by decide⟩) ?_
        refine dp_blk okX6_node 3 (S' := (104, [some (.inr (some 0)), some (.inl v1), some (.inl v2)], [.inl v1, .inr (some 6)], (hM s))) rfl ?_
        obtain ⟨hi, h⟩ := dp_ite h
        refine dp_bal (g := (s.2 5)) okX6_node rfl rfl (dp_inb_in hi) ?_
        refine dp_blk okX6_node 0 (S' := (105, [some (.inr (some 0)), some (.inl v1), some (.inl v2)], [.inl ((s.2 5) (v1).toNatClampNeg)], (hM s))) rfl ?_
        refine dp_if0 okX6_node rfl (fun (c : ((s.2 5) (v1).toNatClampNeg) = (0 : Int32)) => ?_) (fun (c : ¬ ((s.2 5) (v1).toNatClampNeg) = (0 : Int32)) => ?_)
        · have h := dp_ip c h
          refine dp_blk okX6_node 1 (S' := (113, [some (.inr (some 0)), some (.inl v1), some (.inl v2)], [.inl (0 : Int32)], (hM s))) rfl ?_
          cases h
          exact dp_iret okX6_node rfl rfl hk
        · have h := dp_ic c h
          refine dp_blk okX6_node 2 (S' := (113, [some (.inr (some 0)), some (.inl v1), some (.inl v2)], [.inl (1 : Int32)], (hM s))) rfl ?_
          cases h
          exact dp_iret okX6_node rfl rfl hk
      have h := dp_ic c4 h
      refine dp_swO okX6_node (tgt := 114) rfl (dp_out 4 (by decide) (fun j hj => ?_)) (by decide) ?_
      · rcases (show j = 0 ∨ j = 1 ∨ j = 2 ∨ j = 3 ∨ j = 4 by omega) with rfl | rfl | rfl | rfl | rfl
        · exact c0
        · exact c1
        · exact c2
        · exact c3
        · exact c4
      refine dp_blk okX6_node 1 (S' := (116, [some (.inr (some 0)), some (.inl v1), some (.inl v2)], [.inl (-2 : Int32)], (hM s))) rfl ?_
      cases h
      exact dp_iret okX6_node rfl rfl hk
    · have h := dp_ic c h
      refine dp_blk okX6_node 9 (S' := (33, [some (.inr (some 0)), some (.inl v1), some (.inl v2)], [.inl ((((4 : Int32) * v1) + v2) - (10 : Int32)), .inr (some 7)], (hM s))) rfl ?_
      obtain ⟨hi, h⟩ := dp_ite h
      refine dp_ial (g := (s.2 6)) okX6_node rfl rfl (dp_inb_in hi) ?_
      refine dp_blk okX6_node 0 (S' := (34, [some (.inr (some 0)), some (.inl v1), some (.inl v2)], [.inl ((s.2 6) (((((4 : Int32) * v1) + v2) - (10 : Int32))).toNatClampNeg)], (hM s))) rfl ?_
      obtain ⟨x4, hc, h⟩ := dp_bd_inv h
      refine dp_cS okX6_node okX6_size (as := [.inl ((s.2 6) (((((4 : Int32) * v1) + v2) - (10 : Int32))).toNatClampNeg)]) (r := []) rfl lk_NearLiarsModel_115 npX6_size (c_X6_size (hM s) ((s.2 6) (((((4 : Int32) * v1) + v2) - (10 : Int32))).toNatClampNeg) x4 hc) rfl (Nat.le_of_ble_eq_true rfl) (Nat.le_of_ble_eq_true rfl) (Nat.le_refl _) (Nat.le_refl _) ?_
      refine dp_blk okX6_node 0 (S' := (37, [some (.inr (some 0)), some (.inl v1), some (.inl v2)], [.inl x4], (hM s))) rfl ?_
      cases h
      exact dp_iret okX6_node rfl rfl hk
  · have h := dp_ip c h
    refine dp_blk okX6_node 1 (S' := (9, [some (.inr (some 0)), some (.inl v1), some (.inl v2)], [.inl (-1 : Int32)], (hM s))) rfl ?_
    cases h
    exact dp_iret okX6_node rfl rfl hk
theorem c_X6_node (s : dp_Z) (v1 v2 : Int32) (o : Int32) (h : j_X6_node s v1 v2 = some o) : dp_C 2 mX6_node false [.inr (some 0), .inl v1, .inl v2] (hM s) 0 0 (dp_R (some (.inl o)) (hM s)) := dp_C_of okX6_node [some (.inr (some 0)), some (.inl v1), some (.inl v2)] rfl (Nat.le_of_ble_eq_true rfl) (we_X6_node s v1 v2 o h ⟨rfl, rfl⟩)
def jj_X6_manyHonest_100 (s : dp_Z) (v2 v3 v5 t0 t1 : Int32) : Option ((Int32 × Int32) ⊕ Int32) := (some (.inl ((t1 + t0), (v5 + (1 : Int32)))))
set_option maxHeartbeats 1000000 in
set_option maxRecDepth 20000 in
theorem wj_X6_manyHonest_100 {post : Option dp_V → dp_H → Prop} {h0 : dp_H} (s : dp_Z) (v2 v3 v5 t0 t1 : Int32) (o : ((Int32 × Int32) ⊕ Int32)) (h : jj_X6_manyHonest_100 s v2 v3 v5 t0 t1 = some o) (hk : dp_LK (fun x : (Int32 × Int32) => dp_W 1 mX6_manyHonest false h0 0 0 post 0 0 (6, [some (.inr (some 0)), none, some (.inl v2), some (.inl v3), some (.inl x.1), some (.inl x.2), none, none], [], (hM s))) (fun x : Int32 => dp_W 1 mX6_manyHonest false h0 0 0 post 0 0 (109, [none, none, none, none, some (.inl x), none, none, none], [], (hM s))) o) : dp_W 1 mX6_manyHonest false h0 0 0 post 0 0 (100, [some (.inr (some 0)), none, some (.inl v2), some (.inl v3), none, some (.inl v5), none, none], [.inl t0, .inl t1], (hM s)) := by
  unfold jj_X6_manyHonest_100 at h
  refine dp_blk okX6_manyHonest 4 (S' := (6, [some (.inr (some 0)), none, some (.inl v2), some (.inl v3), some (.inl (t1 + t0)), some (.inl (v5 + (1 : Int32))), none, none], [], (hM s))) rfl ?_
  cases h
  exact hk
def jj_X6_manyHonest_99 (s : dp_Z) (v2 v3 v5 t0 : Int32) : Option ((Int32 × Int32) ⊕ Int32) := (jj_X6_manyHonest_100 s v2 v3 v5 (0 : Int32) t0)
set_option maxHeartbeats 1000000 in
set_option maxRecDepth 20000 in
theorem wj_X6_manyHonest_99 {post : Option dp_V → dp_H → Prop} {h0 : dp_H} (s : dp_Z) (v2 v3 v5 t0 : Int32) (o : ((Int32 × Int32) ⊕ Int32)) (h : jj_X6_manyHonest_99 s v2 v3 v5 t0 = some o) (hk : dp_LK (fun x : (Int32 × Int32) => dp_W 1 mX6_manyHonest false h0 0 0 post 0 0 (6, [some (.inr (some 0)), none, some (.inl v2), some (.inl v3), some (.inl x.1), some (.inl x.2), none, none], [], (hM s))) (fun x : Int32 => dp_W 1 mX6_manyHonest false h0 0 0 post 0 0 (109, [none, none, none, none, some (.inl x), none, none, none], [], (hM s))) o) : dp_W 1 mX6_manyHonest false h0 0 0 post 0 0 (99, [some (.inr (some 0)), none, some (.inl v2), some (.inl v3), none, some (.inl v5), none, none], [.inl t0], (hM s)) := by
  unfold jj_X6_manyHonest_99 at h
  refine dp_blk okX6_manyHonest 1 (S' := (100, [some (.inr (some 0)), none, some (.inl v2), some (.inl v3), none, some (.inl v5), none, none], [.inl (0 : Int32), .inl t0], (hM s))) rfl ?_
  exact wj_X6_manyHonest_100 s v2 v3 v5 (0 : Int32) t0 _ h hk
def jj_X6_manyHonest_77 (s : dp_Z) (v2 v3 v4 v5 t0 : Int32) : Option ((Int32 × Int32) ⊕ Int32) := (dp_bd (j_X6_isHonest s v5) fun x1 => (if x1 = (0 : Int32) then (jj_X6_manyHonest_99 s v2 v3 v5 v4) else (if t0 = (0 : Int32) then (jj_X6_manyHonest_99 s v2 v3 v5 v4) else (jj_X6_manyHonest_100 s v2 v3 v5 (1 : Int32) v4))))
set_option maxHeartbeats 1000000 in
set_option maxRecDepth 20000 in
theorem wj_X6_manyHonest_77 {post : Option dp_V → dp_H → Prop} {h0 : dp_H} (s : dp_Z) (v2 v3 v4 v5 t0 : Int32) (o : ((Int32 × Int32) ⊕ Int32)) (h : jj_X6_manyHonest_77 s v2 v3 v4 v5 t0 = some o) (hk : dp_LK (fun x : (Int32 × Int32) => dp_W 1 mX6_manyHonest false h0 0 0 post 0 0 (6, [some (.inr (some 0)), none, some (.inl v2), some (.inl v3), some (.inl x.1), some (.inl x.2), none, none], [], (hM s))) (fun x : Int32 => dp_W 1 mX6_manyHonest false h0 0 0 post 0 0 (109, [none, none, none, none, some (.inl x), none, none, none], [], (hM s))) o) : dp_W 1 mX6_manyHonest false h0 0 0 post 0 0 (77, [some (.inr (some 0)), none, some (.inl v2), some (.inl v3), some (.inl v4), some (.inl v5), none, none], [.inl t0], (hM s)) := by
  unfold jj_X6_manyHonest_77 at h
  refine dp_blk okX6_manyHonest 4 (S' := (84, [some (.inr (some 0)), none, some (.inl v2), some (.inl v3), some (.inl v4), some (.inl v5), none, some (.inl t0)], [.inl v5, .inr (some 0), .inl v4], (hM s))) rfl ?_
  obtain ⟨x1, hc, h⟩ := dp_bd_inv h
  refine dp_cV okX6_manyHonest okX6_isHonest (as := [.inl v5]) (r := [.inl v4]) rfl lk_NearLiarsModel_112 npX6_isHonest (c_X6_isHonest s v5 x1 hc) rfl rfl rfl rfl (Nat.le_of_ble_eq_true rfl) (Nat.le_of_ble_eq_true rfl) (Nat.le_refl _) (Nat.le_refl _) ?_
  refine dp_blk okX6_manyHonest 0 (S' := (87, [some (.inr (some 0)), none, some (.inl v2), some (.inl v3), some (.inl v4), some (.inl v5), none, some (.inl t0)], [.inl x1, .inl v4], (hM s))) rfl ?_
  refine dp_if0 okX6_manyHonest rfl (fun (c : x1 = (0 : Int32)) => ?_) (fun (c : ¬ x1 = (0 : Int32)) => ?_)
  · have h := dp_ip c h
    refine dp_blk okX6_manyHonest 0 (S' := (99, [some (.inr (some 0)), none, some (.inl v2), some (.inl v3), some (.inl v4), some (.inl v5), none, some (.inl t0)], [.inl v4], (hM s))) rfl ?_
    refine dp_fg [true, false, true, true, false, true, false, false] (L' := [some (.inr (some 0)), none, some (.inl v2), some (.inl v3), none, some (.inl v5), none, none]) rfl rfl ?_
    exact wj_X6_manyHonest_99 s v2 v3 v5 v4 _ h hk
  · have h := dp_ic c h
    refine dp_blk okX6_manyHonest 1 (S' := (92, [some (.inr (some 0)), none, some (.inl v2), some (.inl v3), some (.inl v4), some (.inl v5), none, some (.inl t0)], [.inl t0, .inl v4], (hM s))) rfl ?_
    refine dp_if0 okX6_manyHonest rfl (fun (c : t0 = (0 : Int32)) => ?_) (fun (c : ¬ t0 = (0 : Int32)) => ?_)
    · have h := dp_ip c h
      refine dp_blk okX6_manyHonest 0 (S' := (99, [some (.inr (some 0)), none, some (.inl v2), some (.inl v3), some (.inl v4), some (.inl v5), none, some (.inl t0)], [.inl v4], (hM s))) rfl ?_
      refine dp_fg [true, false, true, true, false, true, false, false] (L' := [some (.inr (some 0)), none, some (.inl v2), some (.inl v3), none, some (.inl v5), none, none]) rfl rfl ?_
      exact wj_X6_manyHonest_99 s v2 v3 v5 v4 _ h hk
    · have h := dp_ic c h
      refine dp_blk okX6_manyHonest 2 (S' := (100, [some (.inr (some 0)), none, some (.inl v2), some (.inl v3), some (.inl v4), some (.inl v5), none, some (.inl t0)], [.inl (1 : Int32), .inl v4], (hM s))) rfl ?_
      refine dp_fg [true, false, true, true, false, true, false, false] (L' := [some (.inr (some 0)), none, some (.inl v2), some (.inl v3), none, some (.inl v5), none, none]) rfl rfl ?_
      exact wj_X6_manyHonest_100 s v2 v3 v5 (1 : Int32) v4 _ h hk
def jj_X6_manyHonest_72 (s : dp_Z) (v2 v3 v4 v5 : Int32) : Option ((Int32 × Int32) ⊕ Int32) := (jj_X6_manyHonest_77 s v2 v3 v4 v5 (1 : Int32))
set_option maxHeartbeats 1000000 in
set_option maxRecDepth 20000 in
theorem wj_X6_manyHonest_72 {post : Option dp_V → dp_H → Prop} {h0 : dp_H} (s : dp_Z) (v2 v3 v4 v5 : Int32) (o : ((Int32 × Int32) ⊕ Int32)) (h : jj_X6_manyHonest_72 s v2 v3 v4 v5 = some o) (hk : dp_LK (fun x : (Int32 × Int32) => dp_W 1 mX6_manyHonest false h0 0 0 post 0 0 (6, [some (.inr (some 0)), none, some (.inl v2), some (.inl v3), some (.inl x.1), some (.inl x.2), none, none], [], (hM s))) (fun x : Int32 => dp_W 1 mX6_manyHonest false h0 0 0 post 0 0 (109, [none, none, none, none, some (.inl x), none, none, none], [], (hM s))) o) : dp_W 1 mX6_manyHonest false h0 0 0 post 0 0 (72, [some (.inr (some 0)), none, some (.inl v2), some (.inl v3), some (.inl v4), some (.inl v5), none, none], [], (hM s)) := by
  unfold jj_X6_manyHonest_72 at h
  refine dp_blk okX6_manyHonest 2 (S' := (77, [some (.inr (some 0)), none, some (.inl v2), some (.inl v3), some (.inl v4), some (.inl v5), none, none], [.inl (1 : Int32)], (hM s))) rfl ?_
  exact wj_X6_manyHonest_77 s v2 v3 v4 v5 (1 : Int32) _ h hk
def jj_X6_manyHonest_76 (s : dp_Z) (v2 v3 v4 v5 : Int32) : Option ((Int32 × Int32) ⊕ Int32) := (jj_X6_manyHonest_77 s v2 v3 v4 v5 (0 : Int32))
set_option maxHeartbeats 1000000 in
set_option maxRecDepth 20000 in
theorem wj_X6_manyHonest_76 {post : Option dp_V → dp_H → Prop} {h0 : dp_H} (s : dp_Z) (v2 v3 v4 v5 : Int32) (o : ((Int32 × Int32) ⊕ Int32)) (h : jj_X6_manyHonest_76 s v2 v3 v4 v5 = some o) (hk : dp_LK (fun x : (Int32 × Int32) => dp_W 1 mX6_manyHonest false h0 0 0 post 0 0 (6, [some (.inr (some 0)), none, some (.inl v2), some (.inl v3), some (.inl x.1), some (.inl x.2), none, none], [], (hM s))) (fun x : Int32 => dp_W 1 mX6_manyHonest false h0 0 0 post 0 0 (109, [none, none, none, none, some (.inl x), none, none, none], [], (hM s))) o) : dp_W 1 mX6_manyHonest false h0 0 0 post 0 0 (76, [some (.inr (some 0)), none, some (.inl v2), some (.inl v3), some (.inl v4), some (.inl v5), none, none], [], (hM s)) := by
  unfold jj_X6_manyHonest_76 at h
  refine dp_blk okX6_manyHonest 1 (S' := (77, [some (.inr (some 0)), none, some (.inl v2), some (.inl v3), some (.inl v4), some (.inl v5), none, none], [.inl (0 : Int32)], (hM s))) rfl ?_
  exact wj_X6_manyHonest_77 s v2 v3 v4 v5 (0 : Int32) _ h hk
def jj_X6_manyHonest_69 (s : dp_Z) (v2 v3 v4 v5 t0 t1 : Int32) : Option ((Int32 × Int32) ⊕ Int32) := (if t1 = t0 then (jj_X6_manyHonest_72 s v2 v3 v4 v5) else (jj_X6_manyHonest_76 s v2 v3 v4 v5))
set_option maxHeartbeats 1000000 in
set_option maxRecDepth 20000 in
theorem wj_X6_manyHonest_69 {post : Option dp_V → dp_H → Prop} {h0 : dp_H} (s : dp_Z) (v2 v3 v4 v5 t0 t1 : Int32) (o : ((Int32 × Int32) ⊕ Int32)) (h : jj_X6_manyHonest_69 s v2 v3 v4 v5 t0 t1 = some o) (hk : dp_LK (fun x : (Int32 × Int32) => dp_W 1 mX6_manyHonest false h0 0 0 post 0 0 (6, [some (.inr (some 0)), none, some (.inl v2), some (.inl v3), some (.inl x.1), some (.inl x.2), none, none], [], (hM s))) (fun x : Int32 => dp_W 1 mX6_manyHonest false h0 0 0 post 0 0 (109, [none, none, none, none, some (.inl x), none, none, none], [], (hM s))) o) : dp_W 1 mX6_manyHonest false h0 0 0 post 0 0 (69, [some (.inr (some 0)), none, some (.inl v2), some (.inl v3), some (.inl v4), some (.inl v5), none, none], [.inl t0, .inl t1], (hM s)) := by
  unfold jj_X6_manyHonest_69 at h
  refine dp_if okX6_manyHonest rfl (fun (c : ¬ t1 = t0) => ?_) (fun (c : t1 = t0) => ?_)
  · have h := dp_ic c h
    refine dp_blk okX6_manyHonest 0 (S' := (76, [some (.inr (some 0)), none, some (.inl v2), some (.inl v3), some (.inl v4), some (.inl v5), none, none], [], (hM s))) rfl ?_
    exact wj_X6_manyHonest_76 s v2 v3 v4 v5 _ h hk
  · have h := dp_ip c h
    refine dp_blk okX6_manyHonest 0 (S' := (72, [some (.inr (some 0)), none, some (.inl v2), some (.inl v3), some (.inl v4), some (.inl v5), none, none], [], (hM s))) rfl ?_
    exact wj_X6_manyHonest_72 s v2 v3 v4 v5 _ h hk
def jj_X6_manyHonest_50 (s : dp_Z) (v2 v3 v4 v5 t0 : Int32) : Option ((Int32 × Int32) ⊕ Int32) := (if dp_inb v5 12 = true then (if ((s.2 3) (v5).toNatClampNeg) = (s.1 4) then (jj_X6_manyHonest_69 s v2 v3 v4 v5 (1 : Int32) t0) else (jj_X6_manyHonest_69 s v2 v3 v4 v5 (0 : Int32) t0)) else none)
set_option maxHeartbeats 1000000 in
set_option maxRecDepth 20000 in
theorem wj_X6_manyHonest_50 {post : Option dp_V → dp_H → Prop} {h0 : dp_H} (s : dp_Z) (v2 v3 v4 v5 t0 : Int32) (o : ((Int32 × Int32) ⊕ Int32)) (h : jj_X6_manyHonest_50 s v2 v3 v4 v5 t0 = some o) (hk : dp_LK (fun x : (Int32 × Int32) => dp_W 1 mX6_manyHonest false h0 0 0 post 0 0 (6, [some (.inr (some 0)), none, some (.inl v2), some (.inl v3), some (.inl x.1), some (.inl x.2), none, none], [], (hM s))) (fun x : Int32 => dp_W 1 mX6_manyHonest false h0 0 0 post 0 0 (109, [none, none, none, none, some (.inl x), none, none, none], [], (hM s))) o) : dp_W 1 mX6_manyHonest false h0 0 0 post 0 0 (50, [some (.inr (some 0)), none, some (.inl v2), some (.inl v3), some (.inl v4), some (.inl v5), none, none], [.inl t0], (hM s)) := by
  unfold jj_X6_manyHonest_50 at h
  refine dp_blk okX6_manyHonest 3 (S' := (56, [some (.inr (some 0)), none, some (.inl v2), some (.inl v3), some (.inl v4), some (.inl v5), none, none], [.inl v5, .inr (some 4), .inl t0], (hM s))) rfl ?_
  obtain ⟨hi, h⟩ := dp_ite h
  refine dp_ial (g := (s.2 3)) okX6_manyHonest rfl rfl (dp_inb_in hi) ?_
  refine dp_blk okX6_manyHonest 2 (S' := (61, [some (.inr (some 0)), none, some (.inl v2), some (.inl v3), some (.inl v4), some (.inl v5), none, none], [.inl (s.1 4), .inl ((s.2 3) (v5).toNatClampNeg), .inl t0], (hM s))) rfl ?_
  refine dp_if okX6_manyHonest rfl (fun (c : ¬ ((s.2 3) (v5).toNatClampNeg) = (s.1 4)) => ?_) (fun (c : ((s.2 3) (v5).toNatClampNeg) = (s.1 4)) => ?_)
  · have h := dp_ic c h
    refine dp_blk okX6_manyHonest 1 (S' := (69, [some (.inr (some 0)), none, some (.inl v2), some (.inl v3), some (.inl v4), some (.inl v5), none, none], [.inl (0 : Int32), .inl t0], (hM s))) rfl ?_
    exact wj_X6_manyHonest_69 s v2 v3 v4 v5 (0 : Int32) t0 _ h hk
  · have h := dp_ip c h
    refine dp_blk okX6_manyHonest 2 (S' := (69, [some (.inr (some 0)), none, some (.inl v2), some (.inl v3), some (.inl v4), some (.inl v5), none, none], [.inl (1 : Int32), .inl t0], (hM s))) rfl ?_
    exact wj_X6_manyHonest_69 s v2 v3 v4 v5 (1 : Int32) t0 _ h hk
def jj_X6_manyHonest_29 (s : dp_Z) (v2 v3 v4 v5 t0 : Int32) : Option ((Int32 × Int32) ⊕ Int32) := (if v3 = (0 : Int32) then (jj_X6_manyHonest_72 s v2 v3 v4 v5) else (if t0 = (0 : Int32) then (jj_X6_manyHonest_76 s v2 v3 v4 v5) else (if v3 = (1 : Int32) then (jj_X6_manyHonest_50 s v2 v3 v4 v5 (1 : Int32)) else (jj_X6_manyHonest_50 s v2 v3 v4 v5 (0 : Int32)))))
set_option maxHeartbeats 1000000 in
set_option maxRecDepth 20000 in
theorem wj_X6_manyHonest_29 {post : Option dp_V → dp_H → Prop} {h0 : dp_H} (s : dp_Z) (v2 v3 v4 v5 t0 : Int32) (o : ((Int32 × Int32) ⊕ Int32)) (h : jj_X6_manyHonest_29 s v2 v3 v4 v5 t0 = some o) (hk : dp_LK (fun x : (Int32 × Int32) => dp_W 1 mX6_manyHonest false h0 0 0 post 0 0 (6, [some (.inr (some 0)), none, some (.inl v2), some (.inl v3), some (.inl x.1), some (.inl x.2), none, none], [], (hM s))) (fun x : Int32 => dp_W 1 mX6_manyHonest false h0 0 0 post 0 0 (109, [none, none, none, none, some (.inl x), none, none, none], [], (hM s))) o) : dp_W 1 mX6_manyHonest false h0 0 0 post 0 0 (29, [some (.inr (some 0)), none, some (.inl v2), some (.inl v3), some (.inl v4), some (.inl v5), none, none], [.inl t0], (hM s)) := by
  unfold jj_X6_manyHonest_29 at h
  refine dp_blk okX6_manyHonest 2 (S' := (32, [some (.inr (some 0)), none, some (.inl v2), some (.inl v3), some (.inl v4), some (.inl v5), some (.inl t0), none], [.inl v3], (hM s))) rfl ?_
  refine dp_if0 okX6_manyHonest rfl (fun (c : v3 = (0 : Int32)) => ?_) (fun (c : ¬ v3 = (0 : Int32)) => ?_)
  · have h := dp_ip c h
    refine dp_blk okX6_manyHonest 0 (S' := (72, [some (.inr (some 0)), none, some (.inl v2), some (.inl v3), some (.inl v4), some (.inl v5), some (.inl t0), none], [], (hM s))) rfl ?_
    refine dp_fg [true, false, true, true, true, true, false, false] (L' := [some (.inr (some 0)), none, some (.inl v2), some (.inl v3), some (.inl v4), some (.inl v5), none, none]) rfl rfl ?_
    exact wj_X6_manyHonest_72 s v2 v3 v4 v5 _ h hk
  · have h := dp_ic c h
    refine dp_blk okX6_manyHonest 1 (S' := (37, [some (.inr (some 0)), none, some (.inl v2), some (.inl v3), some (.inl v4), some (.inl v5), some (.inl t0), none], [.inl t0], (hM s))) rfl ?_
    refine dp_if0 okX6_manyHonest rfl (fun (c : t0 = (0 : Int32)) => ?_) (fun (c : ¬ t0 = (0 : Int32)) => ?_)
    · have h := dp_ip c h
      refine dp_blk okX6_manyHonest 0 (S' := (76, [some (.inr (some 0)), none, some (.inl v2), some (.inl v3), some (.inl v4), some (.inl v5), some (.inl t0), none], [], (hM s))) rfl ?_
      refine dp_fg [true, false, true, true, true, true, false, false] (L' := [some (.inr (some 0)), none, some (.inl v2), some (.inl v3), some (.inl v4), some (.inl v5), none, none]) rfl rfl ?_
      exact wj_X6_manyHonest_76 s v2 v3 v4 v5 _ h hk
    · have h := dp_ic c h
      refine dp_blk okX6_manyHonest 2 (S' := (42, [some (.inr (some 0)), none, some (.inl v2), some (.inl v3), some (.inl v4), some (.inl v5), some (.inl t0), none], [.inl (1 : Int32), .inl v3], (hM s))) rfl ?_
      refine dp_if okX6_manyHonest rfl (fun (c : ¬ v3 = (1 : Int32)) => ?_) (fun (c : v3 = (1 : Int32)) => ?_)
      · have h := dp_ic c h
        refine dp_blk okX6_manyHonest 1 (S' := (50, [some (.inr (some 0)), none, some (.inl v2), some (.inl v3), some (.inl v4), some (.inl v5), some (.inl t0), none], [.inl (0 : Int32)], (hM s))) rfl ?_
        refine dp_fg [true, false, true, true, true, true, false, false] (L' := [some (.inr (some 0)), none, some (.inl v2), some (.inl v3), some (.inl v4), some (.inl v5), none, none]) rfl rfl ?_
        exact wj_X6_manyHonest_50 s v2 v3 v4 v5 (0 : Int32) _ h hk
      · have h := dp_ip c h
        refine dp_blk okX6_manyHonest 2 (S' := (50, [some (.inr (some 0)), none, some (.inl v2), some (.inl v3), some (.inl v4), some (.inl v5), some (.inl t0), none], [.inl (1 : Int32)], (hM s))) rfl ?_
        refine dp_fg [true, false, true, true, true, true, false, false] (L' := [some (.inr (some 0)), none, some (.inl v2), some (.inl v3), some (.inl v4), some (.inl v5), none, none]) rfl rfl ?_
        exact wj_X6_manyHonest_50 s v2 v3 v4 v5 (1 : Int32) _ h hk
def jb_X6_manyHonest_6 (s : dp_Z) (v2 v3 : Int32) (x : (Int32 × Int32)) : Option ((Int32 × Int32) ⊕ Int32) := (if v2 ≤ x.2 then (some (.inr x.1)) else (if dp_inb x.2 12 = true then (if ((s.2 3) (x.2).toNatClampNeg) = (-9 : Int32) then (jj_X6_manyHonest_29 s v2 v3 x.1 x.2 (0 : Int32)) else (jj_X6_manyHonest_29 s v2 v3 x.1 x.2 (1 : Int32))) else none))
set_option maxHeartbeats 1000000 in
set_option maxRecDepth 20000 in
theorem wl_X6_manyHonest_6 {post : Option dp_V → dp_H → Prop} {h0 : dp_H} (s : dp_Z) (v2 v3 : Int32) (x : (Int32 × Int32)) (o : ((Int32 × Int32) ⊕ Int32)) (h : jb_X6_manyHonest_6 s v2 v3 x = some o) (hk : dp_LK (fun x : (Int32 × Int32) => dp_W 1 mX6_manyHonest false h0 0 0 post 0 0 (6, [some (.inr (some 0)), none, some (.inl v2), some (.inl v3), some (.inl x.1), some (.inl x.2), none, none], [], (hM s))) (fun x : Int32 => dp_W 1 mX6_manyHonest false h0 0 0 post 0 0 (109, [none, none, none, none, some (.inl x), none, none, none], [], (hM s))) o) : dp_W 1 mX6_manyHonest false h0 0 0 post 0 0 (6, [some (.inr (some 0)), none, some (.inl v2), some (.inl v3), some (.inl x.1), some (.inl x.2), none, none], [], (hM s)) := by
  unfold jb_X6_manyHonest_6 at h
  refine dp_blk okX6_manyHonest 2 (S' := (9, [some (.inr (some 0)), none, some (.inl v2), some (.inl v3), some (.inl x.1), some (.inl x.2), none, none], [.inl v2, .inl x.2], (hM s))) rfl ?_
  refine dp_if okX6_manyHonest rfl (fun (c : v2 ≤ x.2) => ?_) (fun (c : ¬ v2 ≤ x.2) => ?_)
  · have h := dp_ip c h
    refine dp_blk okX6_manyHonest 0 (S' := (109, [some (.inr (some 0)), none, some (.inl v2), some (.inl v3), some (.inl x.1), some (.inl x.2), none, none], [], (hM s))) rfl ?_
    cases h
    refine dp_fg [false, false, false, false, true, false, false, false] (L' := [none, none, none, none, some (.inl x.1), none, none, none]) rfl rfl ?_
    exact hk
  · have h := dp_ic c h
    refine dp_blk okX6_manyHonest 3 (S' := (18, [some (.inr (some 0)), none, some (.inl v2), some (.inl v3), some (.inl x.1), some (.inl x.2), none, none], [.inl x.2, .inr (some 4)], (hM s))) rfl ?_
    obtain ⟨hi, h⟩ := dp_ite h
    refine dp_ial (g := (s.2 3)) okX6_manyHonest rfl rfl (dp_inb_in hi) ?_
    refine dp_blk okX6_manyHonest 1 (S' := (21, [some (.inr (some 0)), none, some (.inl v2), some (.inl v3), some (.inl x.1), some (.inl x.2), none, none], [.inl (-9 : Int32), .inl ((s.2 3) (x.2).toNatClampNeg)], (hM s))) rfl ?_
    refine dp_if okX6_manyHonest rfl (fun (c : ((s.2 3) (x.2).toNatClampNeg) = (-9 : Int32)) => ?_) (fun (c : ¬ ((s.2 3) (x.2).toNatClampNeg) = (-9 : Int32)) => ?_)
    · have h := dp_ip c h
      refine dp_blk okX6_manyHonest 1 (S' := (29, [some (.inr (some 0)), none, some (.inl v2), some (.inl v3), some (.inl x.1), some (.inl x.2), none, none], [.inl (0 : Int32)], (hM s))) rfl ?_
      exact wj_X6_manyHonest_29 s v2 v3 x.1 x.2 (0 : Int32) _ h hk
    · have h := dp_ic c h
      refine dp_blk okX6_manyHonest 2 (S' := (29, [some (.inr (some 0)), none, some (.inl v2), some (.inl v3), some (.inl x.1), some (.inl x.2), none, none], [.inl (1 : Int32)], (hM s))) rfl ?_
      exact wj_X6_manyHonest_29 s v2 v3 x.1 x.2 (1 : Int32) _ h hk
def j_X6_manyHonest (s : dp_Z) (v1 v2 v3 : Int32) : Option Int32 := (dp_bd (dp_loop (jb_X6_manyHonest_6 s v2 v3) dp_F ((0 : Int32), v1)) fun x2 => (some x2))
set_option maxHeartbeats 1000000 in
set_option maxRecDepth 20000 in
theorem we_X6_manyHonest {post : Option dp_V → dp_H → Prop} {h0 : dp_H} (s : dp_Z) (v1 v2 v3 : Int32) (o : Int32) (h : j_X6_manyHonest s v1 v2 v3 = some o) (hk : post (some (.inl o)) (hM s)) : dp_W 1 mX6_manyHonest false h0 0 0 post 0 0 (0, [some (.inr (some 0)), some (.inl v1), some (.inl v2), some (.inl v3), none, none, none, none], [], (hM s)) := by
  unfold j_X6_manyHonest at h
  refine dp_blk okX6_manyHonest 4 (S' := (6, [some (.inr (some 0)), some (.inl v1), some (.inl v2), some (.inl v3), some (.inl (0 : Int32)), some (.inl v1), none, none], [], (hM s))) rfl ?_
  refine dp_fg [true, false, true, true, true, true, false, false] (L' := [some (.inr (some 0)), none, some (.inl v2), some (.inl v3), some (.inl (0 : Int32)), some (.inl v1), none, none]) rfl rfl ?_
  obtain ⟨x2, hl, h⟩ := dp_bd_inv h
  refine dp_loopW (wl_X6_manyHonest_6 s v2 v3) dp_F ((0 : Int32), v1) x2 hl ?_
  show dp_W 1 mX6_manyHonest false h0 0 0 post 0 0 (109, [none, none, none, none, some (.inl x2), none, none, none], [], (hM s))
  refine dp_blk okX6_manyHonest 1 (S' := (111, [none, none, none, none, some (.inl x2), none, none, none], [.inl x2], (hM s))) rfl ?_
  cases h
  exact dp_iret okX6_manyHonest rfl rfl hk
theorem c_X6_manyHonest (s : dp_Z) (v1 v2 v3 : Int32) (o : Int32) (h : j_X6_manyHonest s v1 v2 v3 = some o) : dp_C 1 mX6_manyHonest false [.inr (some 0), .inl v1, .inl v2, .inl v3] (hM s) 0 0 (dp_R (some (.inl o)) (hM s)) := dp_C_of okX6_manyHonest [some (.inr (some 0)), some (.inl v1), some (.inl v2), some (.inl v3), none, none, none, none] rfl (Nat.le_of_ble_eq_true rfl) (we_X6_manyHonest s v1 v2 v3 o h ⟨rfl, rfl⟩)
