/-! ===== printed by program: the pure functions of the methods, and that the bytecode does what they say ===== -/
def jj_X6_lastIn_67 (s : dp_Z) (v2 v4 t0 : Int32) : Option ((Int32 × Int32) ⊕ (Int32 ⊕ Int32)) := (some (.inl (t0, (v4 + (1 : Int32)))))
set_option maxHeartbeats 1000000 in
set_option maxRecDepth 20000 in
theorem wj_X6_lastIn_67 {post : Option dp_V → dp_H → Prop} {h0 : dp_H} (s : dp_Z) (v2 v4 t0 : Int32) (o : ((Int32 × Int32) ⊕ (Int32 ⊕ Int32))) (h : jj_X6_lastIn_67 s v2 v4 t0 = some o) (hk : dp_LK (fun x : (Int32 × Int32) => dp_W 1 mX6_lastIn false h0 0 0 post 0 0 (6, [some (.inr (some 0)), none, some (.inl v2), some (.inl x.1), some (.inl x.2)], [], (hM s))) (dp_LK (fun o : Int32 => post (some (.inl o)) (hM s)) (fun x : Int32 => dp_W 1 mX6_lastIn false h0 0 0 post 0 0 (74, [none, none, none, some (.inl x), none], [], (hM s)))) o) : dp_W 1 mX6_lastIn false h0 0 0 post 0 0 (67, [some (.inr (some 0)), none, some (.inl v2), none, some (.inl v4)], [.inl t0], (hM s)) := by
  unfold jj_X6_lastIn_67 at h
  refine dp_blk okX6_lastIn 3 (S' := (6, [some (.inr (some 0)), none, some (.inl v2), some (.inl t0), some (.inl (v4 + (1 : Int32)))], [], (hM s))) rfl ?_
  cases h
  exact hk
def jj_X6_lastIn_66 (s : dp_Z) (v2 v3 v4 : Int32) : Option ((Int32 × Int32) ⊕ (Int32 ⊕ Int32)) := (jj_X6_lastIn_67 s v2 v4 v3)
set_option maxHeartbeats 1000000 in
set_option maxRecDepth 20000 in
theorem wj_X6_lastIn_66 {post : Option dp_V → dp_H → Prop} {h0 : dp_H} (s : dp_Z) (v2 v3 v4 : Int32) (o : ((Int32 × Int32) ⊕ (Int32 ⊕ Int32))) (h : jj_X6_lastIn_66 s v2 v3 v4 = some o) (hk : dp_LK (fun x : (Int32 × Int32) => dp_W 1 mX6_lastIn false h0 0 0 post 0 0 (6, [some (.inr (some 0)), none, some (.inl v2), some (.inl x.1), some (.inl x.2)], [], (hM s))) (dp_LK (fun o : Int32 => post (some (.inl o)) (hM s)) (fun x : Int32 => dp_W 1 mX6_lastIn false h0 0 0 post 0 0 (74, [none, none, none, some (.inl x), none], [], (hM s)))) o) : dp_W 1 mX6_lastIn false h0 0 0 post 0 0 (66, [some (.inr (some 0)), none, some (.inl v2), some (.inl v3), some (.inl v4)], [], (hM s)) := by
  unfold jj_X6_lastIn_66 at h
  refine dp_blk okX6_lastIn 1 (S' := (67, [some (.inr (some 0)), none, some (.inl v2), some (.inl v3), some (.inl v4)], [.inl v3], (hM s))) rfl ?_
  refine dp_fg [true, false, true, false, true] (L' := [some (.inr (some 0)), none, some (.inl v2), none, some (.inl v4)]) rfl rfl ?_
  exact wj_X6_lastIn_67 s v2 v4 v3 _ h hk
def jj_X6_lastIn_36 (s : dp_Z) (v2 v3 v4 : Int32) : Option ((Int32 × Int32) ⊕ (Int32 ⊕ Int32)) := (dp_bd (j_X6_isHonest s v4) fun x2 => (if x2 = (0 : Int32) then (jj_X6_lastIn_66 s v2 v3 v4) else (if dp_inb v4 12 = true then (if ((s.2 4) (v4).toNatClampNeg) ≤ v3 then (jj_X6_lastIn_66 s v2 v3 v4) else (if dp_inb v4 12 = true then (jj_X6_lastIn_67 s v2 v4 ((s.2 4) (v4).toNatClampNeg)) else none)) else none)))
set_option maxHeartbeats 1000000 in
set_option maxRecDepth 20000 in
theorem wj_X6_lastIn_36 {post : Option dp_V → dp_H → Prop} {h0 : dp_H} (s : dp_Z) (v2 v3 v4 : Int32) (o : ((Int32 × Int32) ⊕ (Int32 ⊕ Int32))) (h : jj_X6_lastIn_36 s v2 v3 v4 = some o) (hk : dp_LK (fun x : (Int32 × Int32) => dp_W 1 mX6_lastIn false h0 0 0 post 0 0 (6, [some (.inr (some 0)), none, some (.inl v2), some (.inl x.1), some (.inl x.2)], [], (hM s))) (dp_LK (fun o : Int32 => post (some (.inl o)) (hM s)) (fun x : Int32 => dp_W 1 mX6_lastIn false h0 0 0 post 0 0 (74, [none, none, none, some (.inl x), none], [], (hM s)))) o) : dp_W 1 mX6_lastIn false h0 0 0 post 0 0 (36, [some (.inr (some 0)), none, some (.inl v2), some (.inl v3), some (.inl v4)], [], (hM s)) := by
  unfold jj_X6_lastIn_36 at h
  refine dp_blk okX6_lastIn 2 (S' := (39, [some (.inr (some 0)), none, some (.inl v2), some (.inl v3), some (.inl v4)], [.inl v4, .inr (some 0)], (hM s))) rfl ?_
  obtain ⟨x2, hc, h⟩ := dp_bd_inv h
  refine dp_cV okX6_lastIn okX6_isHonest (as := [.inl v4]) (r := []) rfl lk_NearLiarsModel_112 npX6_isHonest (c_X6_isHonest s v4 x2 hc) rfl rfl rfl rfl (Nat.le_of_ble_eq_true rfl) (Nat.le_of_ble_eq_true rfl) (Nat.le_refl _) (Nat.le_refl _) ?_
  refine dp_blk okX6_lastIn 0 (S' := (42, [some (.inr (some 0)), none, some (.inl v2), some (.inl v3), some (.inl v4)], [.inl x2], (hM s))) rfl ?_
  refine dp_if0 okX6_lastIn rfl (fun (c : x2 = (0 : Int32)) => ?_) (fun (c : ¬ x2 = (0 : Int32)) => ?_)
  · have h := dp_ip c h
    refine dp_blk okX6_lastIn 0 (S' := (66, [some (.inr (some 0)), none, some (.inl v2), some (.inl v3), some (.inl v4)], [], (hM s))) rfl ?_
    exact wj_X6_lastIn_66 s v2 v3 v4 _ h hk
  · have h := dp_ic c h
    refine dp_blk okX6_lastIn 3 (S' := (51, [some (.inr (some 0)), none, some (.inl v2), some (.inl v3), some (.inl v4)], [.inl v4, .inr (some 5)], (hM s))) rfl ?_
    obtain ⟨hi, h⟩ := dp_ite h
    refine dp_ial (g := (s.2 4)) okX6_lastIn rfl rfl (dp_inb_in hi) ?_
    refine dp_blk okX6_lastIn 1 (S' := (53, [some (.inr (some 0)), none, some (.inl v2), some (.inl v3), some (.inl v4)], [.inl v3, .inl ((s.2 4) (v4).toNatClampNeg)], (hM s))) rfl ?_
    refine dp_if okX6_lastIn rfl (fun (c : ((s.2 4) (v4).toNatClampNeg) ≤ v3) => ?_) (fun (c : ¬ ((s.2 4) (v4).toNatClampNeg) ≤ v3) => ?_)
    · have h := dp_ip c h
      refine dp_blk okX6_lastIn 0 (S' := (66, [some (.inr (some 0)), none, some (.inl v2), some (.inl v3), some (.inl v4)], [], (hM s))) rfl ?_
      exact wj_X6_lastIn_66 s v2 v3 v4 _ h hk
    · have h := dp_ic c h
      refine dp_blk okX6_lastIn 3 (S' := (62, [some (.inr (some 0)), none, some (.inl v2), some (.inl v3), some (.inl v4)], [.inl v4, .inr (some 5)], (hM s))) rfl ?_
      obtain ⟨hi, h⟩ := dp_ite h
      refine dp_ial (g := (s.2 4)) okX6_lastIn rfl rfl (dp_inb_in hi) ?_
      refine dp_blk okX6_lastIn 1 (S' := (67, [some (.inr (some 0)), none, some (.inl v2), some (.inl v3), some (.inl v4)], [.inl ((s.2 4) (v4).toNatClampNeg)], (hM s))) rfl ?_
      refine dp_fg [true, false, true, false, true] (L' := [some (.inr (some 0)), none, some (.inl v2), none, some (.inl v4)]) rfl rfl ?_
      exact wj_X6_lastIn_67 s v2 v4 ((s.2 4) (v4).toNatClampNeg) _ h hk
def jb_X6_lastIn_6 (s : dp_Z) (v2 : Int32) (x : (Int32 × Int32)) : Option ((Int32 × Int32) ⊕ (Int32 ⊕ Int32)) := (if v2 ≤ x.2 then (some (.inr (.inr x.1))) else (dp_bd (j_X6_isHonest s x.2) fun x1 => (if x1 = (0 : Int32) then (jj_X6_lastIn_36 s v2 x.1 x.2) else (if dp_inb x.2 12 = true then (if ((s.2 3) (x.2).toNatClampNeg) = (-9 : Int32) then (some (.inr (.inl (-9 : Int32)))) else (jj_X6_lastIn_36 s v2 x.1 x.2)) else none))))
set_option maxHeartbeats 1000000 in
set_option maxRecDepth 20000 in
theorem wl_X6_lastIn_6 {post : Option dp_V → dp_H → Prop} {h0 : dp_H} (s : dp_Z) (v2 : Int32) (x : (Int32 × Int32)) (o : ((Int32 × Int32) ⊕ (Int32 ⊕ Int32))) (h : jb_X6_lastIn_6 s v2 x = some o) (hk : dp_LK (fun x : (Int32 × Int32) => dp_W 1 mX6_lastIn false h0 0 0 post 0 0 (6, [some (.inr (some 0)), none, some (.inl v2), some (.inl x.1), some (.inl x.2)], [], (hM s))) (dp_LK (fun o : Int32 => post (some (.inl o)) (hM s)) (fun x : Int32 => dp_W 1 mX6_lastIn false h0 0 0 post 0 0 (74, [none, none, none, some (.inl x), none], [], (hM s)))) o) : dp_W 1 mX6_lastIn false h0 0 0 post 0 0 (6, [some (.inr (some 0)), none, some (.inl v2), some (.inl x.1), some (.inl x.2)], [], (hM s)) := by
  unfold jb_X6_lastIn_6 at h
  refine dp_blk okX6_lastIn 2 (S' := (9, [some (.inr (some 0)), none, some (.inl v2), some (.inl x.1), some (.inl x.2)], [.inl v2, .inl x.2], (hM s))) rfl ?_
  refine dp_if okX6_lastIn rfl (fun (c : v2 ≤ x.2) => ?_) (fun (c : ¬ v2 ≤ x.2) => ?_)
  · have h := dp_ip c h
    refine dp_blk okX6_lastIn 0 (S' := (74, [some (.inr (some 0)), none, some (.inl v2), some (.inl x.1), some (.inl x.2)], [], (hM s))) rfl ?_
    cases h
    refine dp_fg [false, false, false, true, false] (L' := [none, none, none, some (.inl x.1), none]) rfl rfl ?_
    exact hk
  · have h := dp_ic c h
    refine dp_blk okX6_lastIn 2 (S' := (15, [some (.inr (some 0)), none, some (.inl v2), some (.inl x.1), some (.inl x.2)], [.inl x.2, .inr (some 0)], (hM s))) rfl ?_
    obtain ⟨x1, hc, h⟩ := dp_bd_inv h
    refine dp_cV okX6_lastIn okX6_isHonest (as := [.inl x.2]) (r := []) rfl lk_NearLiarsModel_112 npX6_isHonest (c_X6_isHonest s x.2 x1 hc) rfl rfl rfl rfl (Nat.le_of_ble_eq_true rfl) (Nat.le_of_ble_eq_true rfl) (Nat.le_refl _) (Nat.le_refl _) ?_
    refine dp_blk okX6_lastIn 0 (S' := (18, [some (.inr (some 0)), none, some (.inl v2), some (.inl x.1), some (.inl x.2)], [.inl x1], (hM s))) rfl ?_
    refine dp_if0 okX6_lastIn rfl (fun (c : x1 = (0 : Int32)) => ?_) (fun (c : ¬ x1 = (0 : Int32)) => ?_)
    · have h := dp_ip c h
      refine dp_blk okX6_lastIn 0 (S' := (36, [some (.inr (some 0)), none, some (.inl v2), some (.inl x.1), some (.inl x.2)], [], (hM s))) rfl ?_
      exact wj_X6_lastIn_36 s v2 x.1 x.2 _ h hk
    · have h := dp_ic c h
      refine dp_blk okX6_lastIn 3 (S' := (27, [some (.inr (some 0)), none, some (.inl v2), some (.inl x.1), some (.inl x.2)], [.inl x.2, .inr (some 4)], (hM s))) rfl ?_
      obtain ⟨hi, h⟩ := dp_ite h
      refine dp_ial (g := (s.2 3)) okX6_lastIn rfl rfl (dp_inb_in hi) ?_
      refine dp_blk okX6_lastIn 1 (S' := (30, [some (.inr (some 0)), none, some (.inl v2), some (.inl x.1), some (.inl x.2)], [.inl (-9 : Int32), .inl ((s.2 3) (x.2).toNatClampNeg)], (hM s))) rfl ?_
      refine dp_if okX6_lastIn rfl (fun (c : ¬ ((s.2 3) (x.2).toNatClampNeg) = (-9 : Int32)) => ?_) (fun (c : ((s.2 3) (x.2).toNatClampNeg) = (-9 : Int32)) => ?_)
      · have h := dp_ic c h
        refine dp_blk okX6_lastIn 0 (S' := (36, [some (.inr (some 0)), none, some (.inl v2), some (.inl x.1), some (.inl x.2)], [], (hM s))) rfl ?_
        exact wj_X6_lastIn_36 s v2 x.1 x.2 _ h hk
      · have h := dp_ip c h
        refine dp_blk okX6_lastIn 1 (S' := (35, [some (.inr (some 0)), none, some (.inl v2), some (.inl x.1), some (.inl x.2)], [.inl (-9 : Int32)], (hM s))) rfl ?_
        cases h
        exact dp_iret okX6_lastIn rfl rfl hk
def j_X6_lastIn (s : dp_Z) (v1 v2 : Int32) : Option Int32 := (dp_bd (dp_loop (jb_X6_lastIn_6 s v2) dp_F ((-9 : Int32), v1)) fun x => Sum.elim (fun x3 => (some x3)) (fun x3 => (some x3)) x)
set_option maxHeartbeats 1000000 in
set_option maxRecDepth 20000 in
theorem we_X6_lastIn {post : Option dp_V → dp_H → Prop} {h0 : dp_H} (s : dp_Z) (v1 v2 : Int32) (o : Int32) (h : j_X6_lastIn s v1 v2 = some o) (hk : post (some (.inl o)) (hM s)) : dp_W 1 mX6_lastIn false h0 0 0 post 0 0 (0, [some (.inr (some 0)), some (.inl v1), some (.inl v2), none, none], [], (hM s)) := by
  unfold j_X6_lastIn at h
  refine dp_blk okX6_lastIn 4 (S' := (6, [some (.inr (some 0)), some (.inl v1), some (.inl v2), some (.inl (-9 : Int32)), some (.inl v1)], [], (hM s))) rfl ?_
  refine dp_fg [true, false, true, true, true] (L' := [some (.inr (some 0)), none, some (.inl v2), some (.inl (-9 : Int32)), some (.inl v1)]) rfl rfl ?_
  obtain ⟨x3, hl, h⟩ := dp_bd_inv h
  refine dp_loopW (wl_X6_lastIn_6 s v2) dp_F ((-9 : Int32), v1) x3 hl ?_
  rcases x3 with x3 | x3
  · simp only [Sum.elim_inl] at h
    cases h
    exact hk
  · simp only [Sum.elim_inr] at h
    show dp_W 1 mX6_lastIn false h0 0 0 post 0 0 (74, [none, none, none, some (.inl x3), none], [], (hM s))
    refine dp_blk okX6_lastIn 1 (S' := (75, [none, none, none, some (.inl x3), none], [.inl x3], (hM s))) rfl ?_
    cases h
    exact dp_iret okX6_lastIn rfl rfl hk
theorem c_X6_lastIn (s : dp_Z) (v1 v2 : Int32) (o : Int32) (h : j_X6_lastIn s v1 v2 = some o) : dp_C 1 mX6_lastIn false [.inr (some 0), .inl v1, .inl v2] (hM s) 0 0 (dp_R (some (.inl o)) (hM s)) := dp_C_of okX6_lastIn [some (.inr (some 0)), some (.inl v1), some (.inl v2), none, none] rfl (Nat.le_of_ble_eq_true rfl) (we_X6_lastIn s v1 v2 o h ⟨rfl, rfl⟩)
def j_X6_band (s : dp_Z) (v1 v2 : Int32) : Option Int32 := (dp_bd (j_X6_within v1 (0 : Int32) ((s.1 2) - (1 : Int32))) fun x1 => (if x1 = (0 : Int32) then (some (-2 : Int32)) else (dp_bd (j_X6_within v2 (0 : Int32) (3 : Int32)) fun x2 => (if x2 = (0 : Int32) then (some (-2 : Int32)) else (if v2 = (3 : Int32) then (dp_bd (j_X6_lastIn s ((s.1 1) * v1) (((s.1 1) * v1) + (s.1 1))) fun x4 => (some x4)) else (dp_bd (j_X6_manyHonest s ((s.1 1) * v1) (((s.1 1) * v1) + (s.1 1)) v2) fun x3 => (some x3)))))))
set_option maxHeartbeats 1000000 in
set_option maxRecDepth 20000 in
theorem we_X6_band {post : Option dp_V → dp_H → Prop} {h0 : dp_H} (s : dp_Z) (v1 v2 : Int32) (o : Int32) (h : j_X6_band s v1 v2 = some o) (hk : post (some (.inl o)) (hM s)) : dp_W 2 mX6_band false h0 0 0 post 0 0 (0, [some (.inr (some 0)), some (.inl v1), some (.inl v2), none], [], (hM s)) := by
  unfold j_X6_band at h
  refine dp_blk okX6_band 6 (S' := (8, [some (.inr (some 0)), some (.inl v1), some (.inl v2), none], [.inl ((s.1 2) - (1 : Int32)), .inl (0 : Int32), .inl v1], (hM s))) rfl ?_
  obtain ⟨x1, hc, h⟩ := dp_bd_inv h
  refine dp_cS okX6_band okX6_within (as := [.inl v1, .inl (0 : Int32), .inl ((s.1 2) - (1 : Int32))]) (r := []) rfl lk_NearLiarsModel_63 npX6_within (c_X6_within (hM s) v1 (0 : Int32) ((s.1 2) - (1 : Int32)) x1 hc) rfl (Nat.le_of_ble_eq_true rfl) (Nat.le_of_ble_eq_true rfl) (Nat.le_refl _) (Nat.le_refl _) ?_
  refine dp_blk okX6_band 0 (S' := (11, [some (.inr (some 0)), some (.inl v1), some (.inl v2), none], [.inl x1], (hM s))) rfl ?_
  refine dp_if0 okX6_band rfl (fun (c : x1 = (0 : Int32)) => ?_) (fun (c : ¬ x1 = (0 : Int32)) => ?_)
  · have h := dp_ip c h
    refine dp_blk okX6_band 1 (S' := (25, [some (.inr (some 0)), some (.inl v1), some (.inl v2), none], [.inl (-2 : Int32)], (hM s))) rfl ?_
    cases h
    exact dp_iret okX6_band rfl rfl hk
  · have h := dp_ic c h
    refine dp_blk okX6_band 3 (S' := (17, [some (.inr (some 0)), some (.inl v1), some (.inl v2), none], [.inl (3 : Int32), .inl (0 : Int32), .inl v2], (hM s))) rfl ?_
    obtain ⟨x2, hc, h⟩ := dp_bd_inv h
    refine dp_cS okX6_band okX6_within (as := [.inl v2, .inl (0 : Int32), .inl (3 : Int32)]) (r := []) rfl lk_NearLiarsModel_63 npX6_within (c_X6_within (hM s) v2 (0 : Int32) (3 : Int32) x2 hc) rfl (Nat.le_of_ble_eq_true rfl) (Nat.le_of_ble_eq_true rfl) (Nat.le_refl _) (Nat.le_refl _) ?_
    refine dp_blk okX6_band 0 (S' := (20, [some (.inr (some 0)), some (.inl v1), some (.inl v2), none], [.inl x2], (hM s))) rfl ?_
    refine dp_if0 okX6_band rfl (fun (c : ¬ x2 = (0 : Int32)) => ?_) (fun (c : x2 = (0 : Int32)) => ?_)
    · have h := dp_ic c h
      refine dp_blk okX6_band 7 (S' := (35, [some (.inr (some 0)), some (.inl v1), some (.inl v2), some (.inl ((s.1 1) * v1))], [.inl (3 : Int32), .inl v2], (hM s))) rfl ?_
      refine dp_if okX6_band rfl (fun (c : ¬ v2 = (3 : Int32)) => ?_) (fun (c : v2 = (3 : Int32)) => ?_)
      · have h := dp_ic c h
        refine dp_blk okX6_band 7 (S' := (61, [some (.inr (some 0)), some (.inl v1), some (.inl v2), some (.inl ((s.1 1) * v1))], [.inl v2, .inl (((s.1 1) * v1) + (s.1 1)), .inl ((s.1 1) * v1), .inr (some 0)], (hM s))) rfl ?_
        obtain ⟨x3, hc, h⟩ := dp_bd_inv h
        refine dp_cV okX6_band okX6_manyHonest (as := [.inl ((s.1 1) * v1), .inl (((s.1 1) * v1) + (s.1 1)), .inl v2]) (r := []) rfl lk_NearLiarsModel_136 npX6_manyHonest (c_X6_manyHonest s ((s.1 1) * v1) (((s.1 1) * v1) + (s.1 1)) v2 x3 hc) rfl rfl rfl rfl (Nat.le_of_ble_eq_true rfl) (Nat.le_of_ble_eq_true rfl) (Nat.le_refl _) (Nat.le_refl _) ?_
        refine dp_blk okX6_band 0 (S' := (64, [some (.inr (some 0)), some (.inl v1), some (.inl v2), some (.inl ((s.1 1) * v1))], [.inl x3], (hM s))) rfl ?_
        cases h
        exact dp_iret okX6_band rfl rfl hk
      · have h := dp_ip c h
        refine dp_blk okX6_band 6 (S' := (46, [some (.inr (some 0)), some (.inl v1), some (.inl v2), some (.inl ((s.1 1) * v1))], [.inl (((s.1 1) * v1) + (s.1 1)), .inl ((s.1 1) * v1), .inr (some 0)], (hM s))) rfl ?_
        obtain ⟨x4, hc, h⟩ := dp_bd_inv h
        refine dp_cV okX6_band okX6_lastIn (as := [.inl ((s.1 1) * v1), .inl (((s.1 1) * v1) + (s.1 1))]) (r := []) rfl lk_NearLiarsModel_133 npX6_lastIn (c_X6_lastIn s ((s.1 1) * v1) (((s.1 1) * v1) + (s.1 1)) x4 hc) rfl rfl rfl rfl (Nat.le_of_ble_eq_true rfl) (Nat.le_of_ble_eq_true rfl) (Nat.le_refl _) (Nat.le_refl _) ?_
        refine dp_blk okX6_band 1 (S' := (64, [some (.inr (some 0)), some (.inl v1), some (.inl v2), some (.inl ((s.1 1) * v1))], [.inl x4], (hM s))) rfl ?_
        cases h
        exact dp_iret okX6_band rfl rfl hk
    · have h := dp_ip c h
      refine dp_blk okX6_band 1 (S' := (25, [some (.inr (some 0)), some (.inl v1), some (.inl v2), none], [.inl (-2 : Int32)], (hM s))) rfl ?_
      cases h
      exact dp_iret okX6_band rfl rfl hk
theorem c_X6_band (s : dp_Z) (v1 v2 : Int32) (o : Int32) (h : j_X6_band s v1 v2 = some o) : dp_C 2 mX6_band false [.inr (some 0), .inl v1, .inl v2] (hM s) 0 0 (dp_R (some (.inl o)) (hM s)) := dp_C_of okX6_band [some (.inr (some 0)), some (.inl v1), some (.inl v2), none] rfl (Nat.le_of_ble_eq_true rfl) (we_X6_band s v1 v2 o h ⟨rfl, rfl⟩)
def j_X6_isSet (s : dp_Z) (v1 : Int32) : Option Int32 := (if v1 < (0 : Int32) then (some (0 : Int32)) else (if ((1 : Int32) <<< ((s.1 0) &&& 31)) ≤ v1 then (some (0 : Int32)) else (dp_bd (j_X6_has v1 (s.1 3)) fun x1 => (if x1 = (0 : Int32) then (some (1 : Int32)) else (some (0 : Int32))))))
set_option maxHeartbeats 1000000 in
set_option maxRecDepth 20000 in
theorem we_X6_isSet {post : Option dp_V → dp_H → Prop} {h0 : dp_H} (s : dp_Z) (v1 : Int32) (o : Int32) (h : j_X6_isSet s v1 = some o) (hk : post (some (.inl o)) (hM s)) : dp_W 1 mX6_isSet false h0 0 0 post 0 0 (0, [some (.inr (some 0)), some (.inl v1)], [], (hM s)) := by
  unfold j_X6_isSet at h
  refine dp_blk okX6_isSet 1 (S' := (1, [some (.inr (some 0)), some (.inl v1)], [.inl v1], (hM s))) rfl ?_
  refine dp_if0 okX6_isSet rfl (fun (c : v1 < (0 : Int32)) => ?_) (fun (c : ¬ v1 < (0 : Int32)) => ?_)
  · have h := dp_ip c h
    refine dp_blk okX6_isSet 1 (S' := (30, [some (.inr (some 0)), some (.inl v1)], [.inl (0 : Int32)], (hM s))) rfl ?_
    cases h
    exact dp_zret okX6_isSet rfl rfl (by decide) hk
  · have h := dp_ic c h
    refine dp_blk okX6_isSet 5 (S' := (11, [some (.inr (some 0)), some (.inl v1)], [.inl ((1 : Int32) <<< ((s.1 0) &&& 31)), .inl v1], (hM s))) rfl ?_
    refine dp_if okX6_isSet rfl (fun (c : ((1 : Int32) <<< ((s.1 0) &&& 31)) ≤ v1) => ?_) (fun (c : ¬ ((1 : Int32) <<< ((s.1 0) &&& 31)) ≤ v1) => ?_)
    · have h := dp_ip c h
      refine dp_blk okX6_isSet 1 (S' := (30, [some (.inr (some 0)), some (.inl v1)], [.inl (0 : Int32)], (hM s))) rfl ?_
      cases h
      exact dp_zret okX6_isSet rfl rfl (by decide) hk
    · have h := dp_ic c h
      refine dp_blk okX6_isSet 3 (S' := (19, [some (.inr (some 0)), some (.inl v1)], [.inl (s.1 3), .inl v1], (hM s))) rfl ?_
      obtain ⟨x1, hc, h⟩ := dp_bd_inv h
      refine dp_cS okX6_isSet okX6_has (as := [.inl v1, .inl (s.1 3)]) (r := []) rfl lk_NearLiarsModel_93 npX6_has (c_X6_has (hM s) v1 (s.1 3) x1 hc) rfl (Nat.le_of_ble_eq_true rfl) (Nat.le_of_ble_eq_true rfl) (Nat.le_refl _) (Nat.le_refl _) ?_
      refine dp_blk okX6_isSet 0 (S' := (22, [some (.inr (some 0)), some (.inl v1)], [.inl x1], (hM s))) rfl ?_
      refine dp_if0 okX6_isSet rfl (fun (c : ¬ x1 = (0 : Int32)) => ?_) (fun (c : x1 = (0 : Int32)) => ?_)
      · have h := dp_ic c h
        refine dp_blk okX6_isSet 1 (S' := (30, [some (.inr (some 0)), some (.inl v1)], [.inl (0 : Int32)], (hM s))) rfl ?_
        cases h
        exact dp_zret okX6_isSet rfl rfl (by decide) hk
      · have h := dp_ip c h
        refine dp_blk okX6_isSet 2 (S' := (30, [some (.inr (some 0)), some (.inl v1)], [.inl (1 : Int32)], (hM s))) rfl ?_
        cases h
        exact dp_zret okX6_isSet rfl rfl (by decide) hk
theorem c_X6_isSet (s : dp_Z) (v1 : Int32) (o : Int32) (h : j_X6_isSet s v1 = some o) : dp_C 1 mX6_isSet false [.inr (some 0), .inl v1] (hM s) 0 0 (dp_R (some (.inl o)) (hM s)) := dp_C_of okX6_isSet [some (.inr (some 0)), some (.inl v1)] rfl (Nat.le_of_ble_eq_true rfl) (we_X6_isSet s v1 o h ⟨rfl, rfl⟩)
def jj_X6_crowdedBy_35 (s : dp_Z) (v1 v2 v3 : Int32) : Option (Int32 ⊕ (Int32 ⊕ Unit)) := (some (.inl (v3 + (1 : Int32))))
set_option maxHeartbeats 1000000 in
set_option maxRecDepth 20000 in
theorem wj_X6_crowdedBy_35 {post : Option dp_V → dp_H → Prop} {h0 : dp_H} (s : dp_Z) (v1 v2 v3 : Int32) (o : (Int32 ⊕ (Int32 ⊕ Unit))) (h : jj_X6_crowdedBy_35 s v1 v2 v3 = some o) (hk : dp_LK (fun x : Int32 => dp_W 1 mX6_crowdedBy false h0 0 0 post 0 0 (2, [some (.inr (some 0)), some (.inl v1), some (.inl v2), some (.inl x)], [], (hM s))) (dp_LK (fun o : Int32 => post (some (.inl o)) (hM s)) (fun x : Unit => dp_W 1 mX6_crowdedBy false h0 0 0 post 0 0 (41, [none, none, none, none], [], (hM s)))) o) : dp_W 1 mX6_crowdedBy false h0 0 0 post 0 0 (35, [some (.inr (some 0)), some (.inl v1), some (.inl v2), some (.inl v3)], [], (hM s)) := by
  unfold jj_X6_crowdedBy_35 at h
  refine dp_blk okX6_crowdedBy 2 (S' := (2, [some (.inr (some 0)), some (.inl v1), some (.inl v2), some (.inl (v3 + (1 : Int32)))], [], (hM s))) rfl ?_
  cases h
  exact hk
def jb_X6_crowdedBy_2 (s : dp_Z) (v1 v2 : Int32) (x : Int32) : Option (Int32 ⊕ (Int32 ⊕ Unit)) := (if (s.1 0) ≤ x then (some (.inr (.inr ()))) else (dp_bd (j_X6_has v1 x) fun x1 => (if x1 = (0 : Int32) then (if dp_inb x 12 = true then (dp_bd (j_X6_size (((s.2 0) (x).toNatClampNeg) &&& v1)) fun x2 => (if x2 < v2 then (jj_X6_crowdedBy_35 s v1 v2 x) else (some (.inr (.inl x))))) else none) else (jj_X6_crowdedBy_35 s v1 v2 x))))
set_option maxHeartbeats 1000000 in
set_option maxRecDepth 20000 in
theorem wl_X6_crowdedBy_2 {post : Option dp_V → dp_H → Prop} {h0 : dp_H} (s : dp_Z) (v1 v2 : Int32) (x : Int32) (o : (Int32 ⊕ (Int32 ⊕ Unit))) (h : jb_X6_crowdedBy_2 s v1 v2 x = some o) (hk : dp_LK (fun x : Int32 => dp_W 1 mX6_crowdedBy false h0 0 0 post 0 0 (2, [some (.inr (some 0)), some (.inl v1), some (.inl v2), some (.inl x)], [], (hM s))) (dp_LK (fun o : Int32 => post (some (.inl o)) (hM s)) (fun x : Unit => dp_W 1 mX6_crowdedBy false h0 0 0 post 0 0 (41, [none, none, none, none], [], (hM s)))) o) : dp_W 1 mX6_crowdedBy false h0 0 0 post 0 0 (2, [some (.inr (some 0)), some (.inl v1), some (.inl v2), some (.inl x)], [], (hM s)) := by
  unfold jb_X6_crowdedBy_2 at h
  refine dp_blk okX6_crowdedBy 3 (S' := (7, [some (.inr (some 0)), some (.inl v1), some (.inl v2), some (.inl x)], [.inl (s.1 0), .inl x], (hM s))) rfl ?_
  refine dp_if okX6_crowdedBy rfl (fun (c : (s.1 0) ≤ x) => ?_) (fun (c : ¬ (s.1 0) ≤ x) => ?_)
  · have h := dp_ip c h
    refine dp_blk okX6_crowdedBy 0 (S' := (41, [some (.inr (some 0)), some (.inl v1), some (.inl v2), some (.inl x)], [], (hM s))) rfl ?_
    cases h
    refine dp_fg [false, false, false, false] (L' := [none, none, none, none]) rfl rfl ?_
    exact hk
  · have h := dp_ic c h
    refine dp_blk okX6_crowdedBy 2 (S' := (12, [some (.inr (some 0)), some (.inl v1), some (.inl v2), some (.inl x)], [.inl x, .inl v1], (hM s))) rfl ?_
    obtain ⟨x1, hc, h⟩ := dp_bd_inv h
    refine dp_cS okX6_crowdedBy okX6_has (as := [.inl v1, .inl x]) (r := []) rfl lk_NearLiarsModel_93 npX6_has (c_X6_has (hM s) v1 x x1 hc) rfl (Nat.le_of_ble_eq_true rfl) (Nat.le_of_ble_eq_true rfl) (Nat.le_refl _) (Nat.le_refl _) ?_
    refine dp_blk okX6_crowdedBy 0 (S' := (15, [some (.inr (some 0)), some (.inl v1), some (.inl v2), some (.inl x)], [.inl x1], (hM s))) rfl ?_
    refine dp_if0 okX6_crowdedBy rfl (fun (c : ¬ x1 = (0 : Int32)) => ?_) (fun (c : x1 = (0 : Int32)) => ?_)
    · have h := dp_ic c h
      refine dp_blk okX6_crowdedBy 0 (S' := (35, [some (.inr (some 0)), some (.inl v1), some (.inl v2), some (.inl x)], [], (hM s))) rfl ?_
      exact wj_X6_crowdedBy_35 s v1 v2 x _ h hk
    · have h := dp_ip c h
      refine dp_blk okX6_crowdedBy 3 (S' := (23, [some (.inr (some 0)), some (.inl v1), some (.inl v2), some (.inl x)], [.inl x, .inr (some 1)], (hM s))) rfl ?_
      obtain ⟨hi, h⟩ := dp_ite h
      refine dp_ial (g := (s.2 0)) okX6_crowdedBy rfl rfl (dp_inb_in hi) ?_
      refine dp_blk okX6_crowdedBy 2 (S' := (26, [some (.inr (some 0)), some (.inl v1), some (.inl v2), some (.inl x)], [.inl (((s.2 0) (x).toNatClampNeg) &&& v1)], (hM s))) rfl ?_
      obtain ⟨x2, hc, h⟩ := dp_bd_inv h
      refine dp_cS okX6_crowdedBy okX6_size (as := [.inl (((s.2 0) (x).toNatClampNeg) &&& v1)]) (r := []) rfl lk_NearLiarsModel_115 npX6_size (c_X6_size (hM s) (((s.2 0) (x).toNatClampNeg) &&& v1) x2 hc) rfl (Nat.le_of_ble_eq_true rfl) (Nat.le_of_ble_eq_true rfl) (Nat.le_refl _) (Nat.le_refl _) ?_
      refine dp_blk okX6_crowdedBy 1 (S' := (30, [some (.inr (some 0)), some (.inl v1), some (.inl v2), some (.inl x)], [.inl v2, .inl x2], (hM s))) rfl ?_
      refine dp_if okX6_crowdedBy rfl (fun (c : x2 < v2) => ?_) (fun (c : ¬ x2 < v2) => ?_)
      · have h := dp_ip c h
        refine dp_blk okX6_crowdedBy 0 (S' := (35, [some (.inr (some 0)), some (.inl v1), some (.inl v2), some (.inl x)], [], (hM s))) rfl ?_
        exact wj_X6_crowdedBy_35 s v1 v2 x _ h hk
      · have h := dp_ic c h
        refine dp_blk okX6_crowdedBy 1 (S' := (34, [some (.inr (some 0)), some (.inl v1), some (.inl v2), some (.inl x)], [.inl x], (hM s))) rfl ?_
        cases h
        exact dp_iret okX6_crowdedBy rfl rfl hk
def j_X6_crowdedBy (s : dp_Z) (v1 v2 : Int32) : Option Int32 := (dp_bd (dp_loop (jb_X6_crowdedBy_2 s v1 v2) dp_F (0 : Int32)) fun x => Sum.elim (fun x3 => (some x3)) (fun x3 => (some (-9 : Int32))) x)
set_option maxHeartbeats 1000000 in
set_option maxRecDepth 20000 in
theorem we_X6_crowdedBy {post : Option dp_V → dp_H → Prop} {h0 : dp_H} (s : dp_Z) (v1 v2 : Int32) (o : Int32) (h : j_X6_crowdedBy s v1 v2 = some o) (hk : post (some (.inl o)) (hM s)) : dp_W 1 mX6_crowdedBy false h0 0 0 post 0 0 (0, [some (.inr (some 0)), some (.inl v1), some (.inl v2), none], [], (hM s)) := by
  unfold j_X6_crowdedBy at h
  refine dp_blk okX6_crowdedBy 2 (S' := (2, [some (.inr (some 0)), some (.inl v1), some (.inl v2), some (.inl (0 : Int32))], [], (hM s))) rfl ?_
  obtain ⟨x3, hl, h⟩ := dp_bd_inv h
  refine dp_loopW (wl_X6_crowdedBy_2 s v1 v2) dp_F (0 : Int32) x3 hl ?_
  rcases x3 with x3 | x3
  · simp only [Sum.elim_inl] at h
    cases h
    exact hk
  · simp only [Sum.elim_inr] at h
    show dp_W 1 mX6_crowdedBy false h0 0 0 post 0 0 (41, [none, none, none, none], [], (hM s))
    refine dp_blk okX6_crowdedBy 1 (S' := (43, [none, none, none, none], [.inl (-9 : Int32)], (hM s))) rfl ?_
    cases h
    exact dp_iret okX6_crowdedBy rfl rfl hk
theorem c_X6_crowdedBy (s : dp_Z) (v1 v2 : Int32) (o : Int32) (h : j_X6_crowdedBy s v1 v2 = some o) : dp_C 1 mX6_crowdedBy false [.inr (some 0), .inl v1, .inl v2] (hM s) 0 0 (dp_R (some (.inl o)) (hM s)) := dp_C_of okX6_crowdedBy [some (.inr (some 0)), some (.inl v1), some (.inl v2), none] rfl (Nat.le_of_ble_eq_true rfl) (we_X6_crowdedBy s v1 v2 o h ⟨rfl, rfl⟩)
def jj_X6_reachedBy_88 (s : dp_Z) (v1 v2 v3 v4 v5 : Int32) : Option ((Int32 × Int32 × Int32) ⊕ (Int32 × Int32)) := (some (.inl (v3, v4, (v5 + (1 : Int32)))))
set_option maxHeartbeats 1000000 in
set_option maxRecDepth 20000 in
theorem wj_X6_reachedBy_88 {post : Option dp_V → dp_H → Prop} {h0 : dp_H} (s : dp_Z) (v1 v2 v3 v4 v5 : Int32) (o : ((Int32 × Int32 × Int32) ⊕ (Int32 × Int32))) (h : jj_X6_reachedBy_88 s v1 v2 v3 v4 v5 = some o) (hk : dp_LK (fun x : (Int32 × Int32 × Int32) => dp_W 1 mX6_reachedBy false h0 0 0 post 0 0 (35, [some (.inr (some 0)), some (.inl v1), some (.inl v2), some (.inl x.1), some (.inl x.2.1), some (.inl x.2.2)], [], (hM s))) (fun x : (Int32 × Int32) => dp_W 1 mX6_reachedBy false h0 0 0 post 0 0 (94, [some (.inr (some 0)), some (.inl v1), some (.inl v2), some (.inl x.1), some (.inl x.2), none], [], (hM s))) o) : dp_W 1 mX6_reachedBy false h0 0 0 post 0 0 (88, [some (.inr (some 0)), some (.inl v1), some (.inl v2), some (.inl v3), some (.inl v4), some (.inl v5)], [], (hM s)) := by
  unfold jj_X6_reachedBy_88 at h
  refine dp_blk okX6_reachedBy 2 (S' := (35, [some (.inr (some 0)), some (.inl v1), some (.inl v2), some (.inl v3), some (.inl v4), some (.inl (v5 + (1 : Int32)))], [], (hM s))) rfl ?_
  cases h
  exact hk
def jb_X6_reachedBy_35 (s : dp_Z) (v1 v2 : Int32) (x : (Int32 × Int32 × Int32)) : Option ((Int32 × Int32 × Int32) ⊕ (Int32 × Int32)) := (if (s.1 0) ≤ x.2.2 then (some (.inr (x.1, x.2.1))) else (dp_bd (j_X6_has v1 x.2.2) fun x2 => (if x2 = (0 : Int32) then (dp_bd (j_X6_has x.1 x.2.2) fun x3 => (if x3 = (0 : Int32) then (if dp_inb x.2.2 12 = true then (dp_bd (j_X6_size (((s.2 0) (x.2.2).toNatClampNeg) &&& x.1)) fun x4 => (if x4 < v2 then (jj_X6_reachedBy_88 s v1 v2 x.1 x.2.1 x.2.2) else (jj_X6_reachedBy_88 s v1 v2 (x.1 ||| ((1 : Int32) <<< (x.2.2 &&& 31))) (1 : Int32) x.2.2))) else none) else (jj_X6_reachedBy_88 s v1 v2 x.1 x.2.1 x.2.2))) else (jj_X6_reachedBy_88 s v1 v2 x.1 x.2.1 x.2.2))))
set_option maxHeartbeats 1000000 in
set_option maxRecDepth 20000 in
theorem wl_X6_reachedBy_35 {post : Option dp_V → dp_H → Prop} {h0 : dp_H} (s : dp_Z) (v1 v2 : Int32) (x : (Int32 × Int32 × Int32)) (o : ((Int32 × Int32 × Int32) ⊕ (Int32 × Int32))) (h : jb_X6_reachedBy_35 s v1 v2 x = some o) (hk : dp_LK (fun x : (Int32 × Int32 × Int32) => dp_W 1 mX6_reachedBy false h0 0 0 post 0 0 (35, [some (.inr (some 0)), some (.inl v1), some (.inl v2), some (.inl x.1), some (.inl x.2.1), some (.inl x.2.2)], [], (hM s))) (fun x : (Int32 × Int32) => dp_W 1 mX6_reachedBy false h0 0 0 post 0 0 (94, [some (.inr (some 0)), some (.inl v1), some (.inl v2), some (.inl x.1), some (.inl x.2), none], [], (hM s))) o) : dp_W 1 mX6_reachedBy false h0 0 0 post 0 0 (35, [some (.inr (some 0)), some (.inl v1), some (.inl v2), some (.inl x.1), some (.inl x.2.1), some (.inl x.2.2)], [], (hM s)) := by
  unfold jb_X6_reachedBy_35 at h
  refine dp_blk okX6_reachedBy 3 (S' := (41, [some (.inr (some 0)), some (.inl v1), some (.inl v2), some (.inl x.1), some (.inl x.2.1), some (.inl x.2.2)], [.inl (s.1 0), .inl x.2.2], (hM s))) rfl ?_
  refine dp_if okX6_reachedBy rfl (fun (c : (s.1 0) ≤ x.2.2) => ?_) (fun (c : ¬ (s.1 0) ≤ x.2.2) => ?_)
  · have h := dp_ip c h
    refine dp_blk okX6_reachedBy 0 (S' := (94, [some (.inr (some 0)), some (.inl v1), some (.inl v2), some (.inl x.1), some (.inl x.2.1), some (.inl x.2.2)], [], (hM s))) rfl ?_
    cases h
    refine dp_fg [true, true, true, true, true, false] (L' := [some (.inr (some 0)), some (.inl v1), some (.inl v2), some (.inl x.1), some (.inl x.2.1), none]) rfl rfl ?_
    exact hk
  · have h := dp_ic c h
    refine dp_blk okX6_reachedBy 2 (S' := (47, [some (.inr (some 0)), some (.inl v1), some (.inl v2), some (.inl x.1), some (.inl x.2.1), some (.inl x.2.2)], [.inl x.2.2, .inl v1], (hM s))) rfl ?_
    obtain ⟨x2, hc, h⟩ := dp_bd_inv h
    refine dp_cS okX6_reachedBy okX6_has (as := [.inl v1, .inl x.2.2]) (r := []) rfl lk_NearLiarsModel_93 npX6_has (c_X6_has (hM s) v1 x.2.2 x2 hc) rfl (Nat.le_of_ble_eq_true rfl) (Nat.le_of_ble_eq_true rfl) (Nat.le_refl _) (Nat.le_refl _) ?_
    refine dp_blk okX6_reachedBy 0 (S' := (50, [some (.inr (some 0)), some (.inl v1), some (.inl v2), some (.inl x.1), some (.inl x.2.1), some (.inl x.2.2)], [.inl x2], (hM s))) rfl ?_
    refine dp_if0 okX6_reachedBy rfl (fun (c : ¬ x2 = (0 : Int32)) => ?_) (fun (c : x2 = (0 : Int32)) => ?_)
    · have h := dp_ic c h
      refine dp_blk okX6_reachedBy 0 (S' := (88, [some (.inr (some 0)), some (.inl v1), some (.inl v2), some (.inl x.1), some (.inl x.2.1), some (.inl x.2.2)], [], (hM s))) rfl ?_
      exact wj_X6_reachedBy_88 s v1 v2 x.1 x.2.1 x.2.2 _ h hk
    · have h := dp_ip c h
      refine dp_blk okX6_reachedBy 2 (S' := (56, [some (.inr (some 0)), some (.inl v1), some (.inl v2), some (.inl x.1), some (.inl x.2.1), some (.inl x.2.2)], [.inl x.2.2, .inl x.1], (hM s))) rfl ?_
      obtain ⟨x3, hc, h⟩ := dp_bd_inv h
      refine dp_cS okX6_reachedBy okX6_has (as := [.inl x.1, .inl x.2.2]) (r := []) rfl lk_NearLiarsModel_93 npX6_has (c_X6_has (hM s) x.1 x.2.2 x3 hc) rfl (Nat.le_of_ble_eq_true rfl) (Nat.le_of_ble_eq_true rfl) (Nat.le_refl _) (Nat.le_refl _) ?_
      refine dp_blk okX6_reachedBy 0 (S' := (59, [some (.inr (some 0)), some (.inl v1), some (.inl v2), some (.inl x.1), some (.inl x.2.1), some (.inl x.2.2)], [.inl x3], (hM s))) rfl ?_
      refine dp_if0 okX6_reachedBy rfl (fun (c : ¬ x3 = (0 : Int32)) => ?_) (fun (c : x3 = (0 : Int32)) => ?_)
      · have h := dp_ic c h
        refine dp_blk okX6_reachedBy 0 (S' := (88, [some (.inr (some 0)), some (.inl v1), some (.inl v2), some (.inl x.1), some (.inl x.2.1), some (.inl x.2.2)], [], (hM s))) rfl ?_
        exact wj_X6_reachedBy_88 s v1 v2 x.1 x.2.1 x.2.2 _ h hk
      · have h := dp_ip c h
        refine dp_blk okX6_reachedBy 3 (S' := (68, [some (.inr (some 0)), some (.inl v1), some (.inl v2), some (.inl x.1), some (.inl x.2.1), some (.inl x.2.2)], [.inl x.2.2, .inr (some 1)], (hM s))) rfl ?_
        obtain ⟨hi, h⟩ := dp_ite h
        refine dp_ial (g := (s.2 0)) okX6_reachedBy rfl rfl (dp_inb_in hi) ?_
        refine dp_blk okX6_reachedBy 2 (S' := (71, [some (.inr (some 0)), some (.inl v1), some (.inl v2), some (.inl x.1), some (.inl x.2.1), some (.inl x.2.2)], [.inl (((s.2 0) (x.2.2).toNatClampNeg) &&& x.1)], (hM s))) rfl ?_
        obtain ⟨x4, hc, h⟩ := dp_bd_inv h
        refine dp_cS okX6_reachedBy okX6_size (as := [.inl (((s.2 0) (x.2.2).toNatClampNeg) &&& x.1)]) (r := []) rfl lk_NearLiarsModel_115 npX6_size (c_X6_size (hM s) (((s.2 0) (x.2.2).toNatClampNeg) &&& x.1) x4 hc) rfl (Nat.le_of_ble_eq_true rfl) (Nat.le_of_ble_eq_true rfl) (Nat.le_refl _) (Nat.le_refl _) ?_
        refine dp_blk okX6_reachedBy 1 (S' := (75, [some (.inr (some 0)), some (.inl v1), some (.inl v2), some (.inl x.1), some (.inl x.2.1), some (.inl x.2.2)], [.inl v2, .inl x4], (hM s))) rfl ?_
        refine dp_if okX6_reachedBy rfl (fun (c : x4 < v2) => ?_) (fun (c : ¬ x4 < v2) => ?_)
        · have h := dp_ip c h
          refine dp_blk okX6_reachedBy 0 (S' := (88, [some (.inr (some 0)), some (.inl v1), some (.inl v2), some (.inl x.1), some (.inl x.2.1), some (.inl x.2.2)], [], (hM s))) rfl ?_
          exact wj_X6_reachedBy_88 s v1 v2 x.1 x.2.1 x.2.2 _ h hk
        · have h := dp_ic c h
          refine dp_blk okX6_reachedBy 8 (S' := (88, [some (.inr (some 0)), some (.inl v1), some (.inl v2), some (.inl (x.1 ||| ((1 : Int32) <<< (x.2.2 &&& 31)))), some (.inl (1 : Int32)), some (.inl x.2.2)], [], (hM s))) rfl ?_
          exact wj_X6_reachedBy_88 s v1 v2 (x.1 ||| ((1 : Int32) <<< (x.2.2 &&& 31))) (1 : Int32) x.2.2 _ h hk
def jb_X6_reachedBy_24 (s : dp_Z) (v1 v2 : Int32) (x : (Int32 × Int32)) : Option ((Int32 × Int32) ⊕ Int32) := (if x.2 = (0 : Int32) then (some (.inr x.1)) else (dp_bd (dp_loop (jb_X6_reachedBy_35 s v1 v2) dp_F (x.1, (0 : Int32), (0 : Int32))) fun x5 => (some (.inl (x5.1, x5.2)))))
set_option maxHeartbeats 1000000 in
set_option maxRecDepth 20000 in
theorem wl_X6_reachedBy_24 {post : Option dp_V → dp_H → Prop} {h0 : dp_H} (s : dp_Z) (v1 v2 : Int32) (x : (Int32 × Int32)) (o : ((Int32 × Int32) ⊕ Int32)) (h : jb_X6_reachedBy_24 s v1 v2 x = some o) (hk : dp_LK (fun x : (Int32 × Int32) => dp_W 1 mX6_reachedBy false h0 0 0 post 0 0 (24, [some (.inr (some 0)), some (.inl v1), some (.inl v2), some (.inl x.1), some (.inl x.2), none], [], (hM s))) (fun x : Int32 => dp_W 1 mX6_reachedBy false h0 0 0 post 0 0 (97, [none, none, none, some (.inl x), none, none], [], (hM s))) o) : dp_W 1 mX6_reachedBy false h0 0 0 post 0 0 (24, [some (.inr (some 0)), some (.inl v1), some (.inl v2), some (.inl x.1), some (.inl x.2), none], [], (hM s)) := by
  unfold jb_X6_reachedBy_24 at h
  refine dp_blk okX6_reachedBy 1 (S' := (26, [some (.inr (some 0)), some (.inl v1), some (.inl v2), some (.inl x.1), some (.inl x.2), none], [.inl x.2], (hM s))) rfl ?_
  refine dp_if0 okX6_reachedBy rfl (fun (c : x.2 = (0 : Int32)) => ?_) (fun (c : ¬ x.2 = (0 : Int32)) => ?_)
  · have h := dp_ip c h
    refine dp_blk okX6_reachedBy 0 (S' := (97, [some (.inr (some 0)), some (.inl v1), some (.inl v2), some (.inl x.1), some (.inl x.2), none], [], (hM s))) rfl ?_
    cases h
    refine dp_fg [false, false, false, true, false, false] (L' := [none, none, none, some (.inl x.1), none, none]) rfl rfl ?_
    exact hk
  · have h := dp_ic c h
    refine dp_blk okX6_reachedBy 4 (S' := (35, [some (.inr (some 0)), some (.inl v1), some (.inl v2), some (.inl x.1), some (.inl (0 : Int32)), some (.inl (0 : Int32))], [], (hM s))) rfl ?_
    obtain ⟨x5, hl, h⟩ := dp_bd_inv h
    refine dp_loopW (wl_X6_reachedBy_35 s v1 v2) dp_F (x.1, (0 : Int32), (0 : Int32)) x5 hl ?_
    show dp_W 1 mX6_reachedBy false h0 0 0 post 0 0 (94, [some (.inr (some 0)), some (.inl v1), some (.inl v2), some (.inl x5.1), some (.inl x5.2), none], [], (hM s))
    refine dp_blk okX6_reachedBy 1 (S' := (24, [some (.inr (some 0)), some (.inl v1), some (.inl v2), some (.inl x5.1), some (.inl x5.2), none], [], (hM s))) rfl ?_
    cases h
    exact hk
def j_X6_reachedBy (s : dp_Z) (v1 v2 : Int32) : Option Int32 := (if dp_inb (s.1 3) 12 = true then (dp_bd (some ((((1 : Int32) <<< ((s.1 3) &&& 31)) ||| ((s.2 0) ((s.1 3)).toNatClampNeg)) &&& (v1 ^^^ (-1 : Int32)))) fun y1 => (dp_bd (dp_loop (jb_X6_reachedBy_24 s v1 v2) dp_F (y1, (1 : Int32))) fun x6 => (some x6))) else none)
set_option maxHeartbeats 1000000 in
set_option maxRecDepth 20000 in
theorem we_X6_reachedBy {post : Option dp_V → dp_H → Prop} {h0 : dp_H} (s : dp_Z) (v1 v2 : Int32) (o : Int32) (h : j_X6_reachedBy s v1 v2 = some o) (hk : post (some (.inl o)) (hM s)) : dp_W 1 mX6_reachedBy false h0 0 0 post 0 0 (0, [some (.inr (some 0)), some (.inl v1), some (.inl v2), none, none, none], [], (hM s)) := by
  unfold j_X6_reachedBy at h
  refine dp_blk okX6_reachedBy 8 (S' := (14, [some (.inr (some 0)), some (.inl v1), some (.inl v2), none, none, none], [.inl (s.1 3), .inr (some 1), .inl ((1 : Int32) <<< ((s.1 3) &&& 31))], (hM s))) rfl ?_
  obtain ⟨hi, h⟩ := dp_ite h
  refine dp_ial (g := (s.2 0)) okX6_reachedBy rfl rfl (dp_inb_in hi) ?_
  obtain ⟨y1, hy, h⟩ := dp_bd_inv h
  have hy := Option.some.inj hy
  refine dp_blk okX6_reachedBy 6 (S' := (21, [some (.inr (some 0)), some (.inl v1), some (.inl v2), some (.inl y1), none, none], [], (hM s))) (by subst hy; rfl) ?_
  refine dp_blk okX6_reachedBy 2 (S' := (24, [some (.inr (some 0)), some (.inl v1), some (.inl v2), some (.inl y1), some (.inl (1 : Int32)), none], [], (hM s))) rfl ?_
  obtain ⟨x6, hl, h⟩ := dp_bd_inv h
  refine dp_loopW (wl_X6_reachedBy_24 s v1 v2) dp_F (y1, (1 : Int32)) x6 hl ?_
  show dp_W 1 mX6_reachedBy false h0 0 0 post 0 0 (97, [none, none, none, some (.inl x6), none, none], [], (hM s))
  refine dp_blk okX6_reachedBy 1 (S' := (98, [none, none, none, some (.inl x6), none, none], [.inl x6], (hM s))) rfl ?_
  cases h
  exact dp_iret okX6_reachedBy rfl rfl hk
theorem c_X6_reachedBy (s : dp_Z) (v1 v2 : Int32) (o : Int32) (h : j_X6_reachedBy s v1 v2 = some o) : dp_C 1 mX6_reachedBy false [.inr (some 0), .inl v1, .inl v2] (hM s) 0 0 (dp_R (some (.inl o)) (hM s)) := dp_C_of okX6_reachedBy [some (.inr (some 0)), some (.inl v1), some (.inl v2), none, none, none] rfl (Nat.le_of_ble_eq_true rfl) (we_X6_reachedBy s v1 v2 o h ⟨rfl, rfl⟩)
def j_X6_cutBy (s : dp_Z) (v1 v2 : Int32) : Option Int32 := (dp_bd (j_X6_reachedBy s v1 v2) fun x1 => (some (((((1 : Int32) <<< ((s.1 0) &&& 31)) - (1 : Int32)) &&& (v1 ^^^ (-1 : Int32))) &&& (x1 ^^^ (-1 : Int32)))))
set_option maxHeartbeats 1000000 in
set_option maxRecDepth 20000 in
theorem we_X6_cutBy {post : Option dp_V → dp_H → Prop} {h0 : dp_H} (s : dp_Z) (v1 v2 : Int32) (o : Int32) (h : j_X6_cutBy s v1 v2 = some o) (hk : post (some (.inl o)) (hM s)) : dp_W 2 mX6_cutBy false h0 0 0 post 0 0 (0, [some (.inr (some 0)), some (.inl v1), some (.inl v2)], [], (hM s)) := by
  unfold j_X6_cutBy at h
  refine dp_blk okX6_cutBy 13 (S' := (15, [some (.inr (some 0)), some (.inl v1), some (.inl v2)], [.inl v2, .inl v1, .inr (some 0), .inl ((((1 : Int32) <<< ((s.1 0) &&& 31)) - (1 : Int32)) &&& (v1 ^^^ (-1 : Int32)))], (hM s))) rfl ?_
  obtain ⟨x1, hc, h⟩ := dp_bd_inv h
  refine dp_cV okX6_cutBy okX6_reachedBy (as := [.inl v1, .inl v2]) (r := [.inl ((((1 : Int32) <<< ((s.1 0) &&& 31)) - (1 : Int32)) &&& (v1 ^^^ (-1 : Int32)))]) rfl lk_NearLiarsModel_140 npX6_reachedBy (c_X6_reachedBy s v1 v2 x1 hc) rfl rfl rfl rfl (Nat.le_of_ble_eq_true rfl) (Nat.le_of_ble_eq_true rfl) (Nat.le_refl _) (Nat.le_refl _) ?_
  refine dp_blk okX6_cutBy 3 (S' := (21, [some (.inr (some 0)), some (.inl v1), some (.inl v2)], [.inl (((((1 : Int32) <<< ((s.1 0) &&& 31)) - (1 : Int32)) &&& (v1 ^^^ (-1 : Int32))) &&& (x1 ^^^ (-1 : Int32)))], (hM s))) rfl ?_
  cases h
  exact dp_iret okX6_cutBy rfl rfl hk
theorem c_X6_cutBy (s : dp_Z) (v1 v2 : Int32) (o : Int32) (h : j_X6_cutBy s v1 v2 = some o) : dp_C 2 mX6_cutBy false [.inr (some 0), .inl v1, .inl v2] (hM s) 0 0 (dp_R (some (.inl o)) (hM s)) := dp_C_of okX6_cutBy [some (.inr (some 0)), some (.inl v1), some (.inl v2)] rfl (Nat.le_of_ble_eq_true rfl) (we_X6_cutBy s v1 v2 o h ⟨rfl, rfl⟩)
def j_X6_sort (s : dp_Z) (v1 : Int32) : Option Int32 := (dp_bd (j_X6_isSet s v1) fun x1 => (if x1 = (0 : Int32) then (some (-2 : Int32)) else (dp_bd (j_X6_crowdedBy s v1 (s.1 5)) fun x2 => (if x2 = (-9 : Int32) then (dp_bd (j_X6_cutBy s v1 (s.1 5)) fun x3 => (if x3 = (0 : Int32) then (some (2 : Int32)) else (some (1 : Int32)))) else (some (0 : Int32))))))
set_option maxHeartbeats 1000000 in
set_option maxRecDepth 20000 in
theorem we_X6_sort {post : Option dp_V → dp_H → Prop} {h0 : dp_H} (s : dp_Z) (v1 : Int32) (o : Int32) (h : j_X6_sort s v1 = some o) (hk : post (some (.inl o)) (hM s)) : dp_W 3 mX6_sort false h0 0 0 post 0 0 (0, [some (.inr (some 0)), some (.inl v1)], [], (hM s)) := by
  unfold j_X6_sort at h
  refine dp_blk okX6_sort 2 (S' := (2, [some (.inr (some 0)), some (.inl v1)], [.inl v1, .inr (some 0)], (hM s))) rfl ?_
  obtain ⟨x1, hc, h⟩ := dp_bd_inv h
  refine dp_cV okX6_sort okX6_isSet (as := [.inl v1]) (r := []) rfl lk_NearLiarsModel_143 npX6_isSet (c_X6_isSet s v1 x1 hc) rfl rfl rfl rfl (Nat.le_of_ble_eq_true rfl) (Nat.le_of_ble_eq_true rfl) (Nat.le_refl _) (Nat.le_refl _) ?_
  refine dp_blk okX6_sort 0 (S' := (5, [some (.inr (some 0)), some (.inl v1)], [.inl x1], (hM s))) rfl ?_
  refine dp_if0 okX6_sort rfl (fun (c : ¬ x1 = (0 : Int32)) => ?_) (fun (c : x1 = (0 : Int32)) => ?_)
  · have h := dp_ic c h
    refine dp_blk okX6_sort 4 (S' := (17, [some (.inr (some 0)), some (.inl v1)], [.inl (s.1 5), .inl v1, .inr (some 0)], (hM s))) rfl ?_
    obtain ⟨x2, hc, h⟩ := dp_bd_inv h
    refine dp_cV okX6_sort okX6_crowdedBy (as := [.inl v1, .inl (s.1 5)]) (r := []) rfl lk_NearLiarsModel_146 npX6_crowdedBy (c_X6_crowdedBy s v1 (s.1 5) x2 hc) rfl rfl rfl rfl (Nat.le_of_ble_eq_true rfl) (Nat.le_of_ble_eq_true rfl) (Nat.le_refl _) (Nat.le_refl _) ?_
    refine dp_blk okX6_sort 1 (S' := (22, [some (.inr (some 0)), some (.inl v1)], [.inl (-9 : Int32), .inl x2], (hM s))) rfl ?_
    refine dp_if okX6_sort rfl (fun (c : x2 = (-9 : Int32)) => ?_) (fun (c : ¬ x2 = (-9 : Int32)) => ?_)
    · have h := dp_ip c h
      refine dp_blk okX6_sort 4 (S' := (33, [some (.inr (some 0)), some (.inl v1)], [.inl (s.1 5), .inl v1, .inr (some 0)], (hM s))) rfl ?_
      obtain ⟨x3, hc, h⟩ := dp_bd_inv h
      refine dp_cV okX6_sort okX6_cutBy (as := [.inl v1, .inl (s.1 5)]) (r := []) rfl lk_NearLiarsModel_149 npX6_cutBy (c_X6_cutBy s v1 (s.1 5) x3 hc) rfl rfl rfl rfl (Nat.le_of_ble_eq_true rfl) (Nat.le_of_ble_eq_true rfl) (Nat.le_refl _) (Nat.le_refl _) ?_
      refine dp_blk okX6_sort 0 (S' := (36, [some (.inr (some 0)), some (.inl v1)], [.inl x3], (hM s))) rfl ?_
      refine dp_if0 okX6_sort rfl (fun (c : x3 = (0 : Int32)) => ?_) (fun (c : ¬ x3 = (0 : Int32)) => ?_)
      · have h := dp_ip c h
        refine dp_blk okX6_sort 1 (S' := (44, [some (.inr (some 0)), some (.inl v1)], [.inl (2 : Int32)], (hM s))) rfl ?_
        cases h
        exact dp_iret okX6_sort rfl rfl hk
      · have h := dp_ic c h
        refine dp_blk okX6_sort 2 (S' := (44, [some (.inr (some 0)), some (.inl v1)], [.inl (1 : Int32)], (hM s))) rfl ?_
        cases h
        exact dp_iret okX6_sort rfl rfl hk
    · have h := dp_ic c h
      refine dp_blk okX6_sort 1 (S' := (26, [some (.inr (some 0)), some (.inl v1)], [.inl (0 : Int32)], (hM s))) rfl ?_
      cases h
      exact dp_iret okX6_sort rfl rfl hk
  · have h := dp_ip c h
    refine dp_blk okX6_sort 1 (S' := (10, [some (.inr (some 0)), some (.inl v1)], [.inl (-2 : Int32)], (hM s))) rfl ?_
    cases h
    exact dp_iret okX6_sort rfl rfl hk
theorem c_X6_sort (s : dp_Z) (v1 : Int32) (o : Int32) (h : j_X6_sort s v1 = some o) : dp_C 3 mX6_sort false [.inr (some 0), .inl v1] (hM s) 0 0 (dp_R (some (.inl o)) (hM s)) := dp_C_of okX6_sort [some (.inr (some 0)), some (.inl v1)] rfl (Nat.le_of_ble_eq_true rfl) (we_X6_sort s v1 o h ⟨rfl, rfl⟩)
def j_X6_crowded (s : dp_Z) (v1 : Int32) : Option Int32 := (dp_bd (j_X6_isSet s v1) fun x1 => (if x1 = (0 : Int32) then (some (-2 : Int32)) else (dp_bd (j_X6_crowdedBy s v1 (s.1 5)) fun x2 => (some x2))))
set_option maxHeartbeats 1000000 in
set_option maxRecDepth 20000 in
theorem we_X6_crowded {post : Option dp_V → dp_H → Prop} {h0 : dp_H} (s : dp_Z) (v1 : Int32) (o : Int32) (h : j_X6_crowded s v1 = some o) (hk : post (some (.inl o)) (hM s)) : dp_W 2 mX6_crowded false h0 0 0 post 0 0 (0, [some (.inr (some 0)), some (.inl v1)], [], (hM s)) := by
  unfold j_X6_crowded at h
  refine dp_blk okX6_crowded 2 (S' := (2, [some (.inr (some 0)), some (.inl v1)], [.inl v1, .inr (some 0)], (hM s))) rfl ?_
  obtain ⟨x1, hc, h⟩ := dp_bd_inv h
  refine dp_cV okX6_crowded okX6_isSet (as := [.inl v1]) (r := []) rfl lk_NearLiarsModel_143 npX6_isSet (c_X6_isSet s v1 x1 hc) rfl rfl rfl rfl (Nat.le_of_ble_eq_true rfl) (Nat.le_of_ble_eq_true rfl) (Nat.le_refl _) (Nat.le_refl _) ?_
  refine dp_blk okX6_crowded 0 (S' := (5, [some (.inr (some 0)), some (.inl v1)], [.inl x1], (hM s))) rfl ?_
  refine dp_if0 okX6_crowded rfl (fun (c : x1 = (0 : Int32)) => ?_) (fun (c : ¬ x1 = (0 : Int32)) => ?_)
  · have h := dp_ip c h
    refine dp_blk okX6_crowded 1 (S' := (22, [some (.inr (some 0)), some (.inl v1)], [.inl (-2 : Int32)], (hM s))) rfl ?_
    cases h
    exact dp_iret okX6_crowded rfl rfl hk
  · have h := dp_ic c h
    refine dp_blk okX6_crowded 4 (S' := (14, [some (.inr (some 0)), some (.inl v1)], [.inl (s.1 5), .inl v1, .inr (some 0)], (hM s))) rfl ?_
    obtain ⟨x2, hc, h⟩ := dp_bd_inv h
    refine dp_cV okX6_crowded okX6_crowdedBy (as := [.inl v1, .inl (s.1 5)]) (r := []) rfl lk_NearLiarsModel_146 npX6_crowdedBy (c_X6_crowdedBy s v1 (s.1 5) x2 hc) rfl rfl rfl rfl (Nat.le_of_ble_eq_true rfl) (Nat.le_of_ble_eq_true rfl) (Nat.le_refl _) (Nat.le_refl _) ?_
    refine dp_blk okX6_crowded 1 (S' := (22, [some (.inr (some 0)), some (.inl v1)], [.inl x2], (hM s))) rfl ?_
    cases h
    exact dp_iret okX6_crowded rfl rfl hk
theorem c_X6_crowded (s : dp_Z) (v1 : Int32) (o : Int32) (h : j_X6_crowded s v1 = some o) : dp_C 2 mX6_crowded false [.inr (some 0), .inl v1] (hM s) 0 0 (dp_R (some (.inl o)) (hM s)) := dp_C_of okX6_crowded [some (.inr (some 0)), some (.inl v1)] rfl (Nat.le_of_ble_eq_true rfl) (we_X6_crowded s v1 o h ⟨rfl, rfl⟩)
def j_X6_reached (s : dp_Z) (v1 : Int32) : Option Int32 := (dp_bd (j_X6_isSet s v1) fun x1 => (if x1 = (0 : Int32) then (some (-2 : Int32)) else (dp_bd (j_X6_reachedBy s v1 (s.1 5)) fun x2 => (some x2))))
set_option maxHeartbeats 1000000 in
set_option maxRecDepth 20000 in
theorem we_X6_reached {post : Option dp_V → dp_H → Prop} {h0 : dp_H} (s : dp_Z) (v1 : Int32) (o : Int32) (h : j_X6_reached s v1 = some o) (hk : post (some (.inl o)) (hM s)) : dp_W 2 mX6_reached false h0 0 0 post 0 0 (0, [some (.inr (some 0)), some (.inl v1)], [], (hM s)) := by
  unfold j_X6_reached at h
  refine dp_blk okX6_reached 2 (S' := (2, [some (.inr (some 0)), some (.inl v1)], [.inl v1, .inr (some 0)], (hM s))) rfl ?_
  obtain ⟨x1, hc, h⟩ := dp_bd_inv h
  refine dp_cV okX6_reached okX6_isSet (as := [.inl v1]) (r := []) rfl lk_NearLiarsModel_143 npX6_isSet (c_X6_isSet s v1 x1 hc) rfl rfl rfl rfl (Nat.le_of_ble_eq_true rfl) (Nat.le_of_ble_eq_true rfl) (Nat.le_refl _) (Nat.le_refl _) ?_
  refine dp_blk okX6_reached 0 (S' := (5, [some (.inr (some 0)), some (.inl v1)], [.inl x1], (hM s))) rfl ?_
  refine dp_if0 okX6_reached rfl (fun (c : x1 = (0 : Int32)) => ?_) (fun (c : ¬ x1 = (0 : Int32)) => ?_)
  · have h := dp_ip c h
    refine dp_blk okX6_reached 1 (S' := (22, [some (.inr (some 0)), some (.inl v1)], [.inl (-2 : Int32)], (hM s))) rfl ?_
    cases h
    exact dp_iret okX6_reached rfl rfl hk
  · have h := dp_ic c h
    refine dp_blk okX6_reached 4 (S' := (14, [some (.inr (some 0)), some (.inl v1)], [.inl (s.1 5), .inl v1, .inr (some 0)], (hM s))) rfl ?_
    obtain ⟨x2, hc, h⟩ := dp_bd_inv h
    refine dp_cV okX6_reached okX6_reachedBy (as := [.inl v1, .inl (s.1 5)]) (r := []) rfl lk_NearLiarsModel_140 npX6_reachedBy (c_X6_reachedBy s v1 (s.1 5) x2 hc) rfl rfl rfl rfl (Nat.le_of_ble_eq_true rfl) (Nat.le_of_ble_eq_true rfl) (Nat.le_refl _) (Nat.le_refl _) ?_
    refine dp_blk okX6_reached 1 (S' := (22, [some (.inr (some 0)), some (.inl v1)], [.inl x2], (hM s))) rfl ?_
    cases h
    exact dp_iret okX6_reached rfl rfl hk
theorem c_X6_reached (s : dp_Z) (v1 : Int32) (o : Int32) (h : j_X6_reached s v1 = some o) : dp_C 2 mX6_reached false [.inr (some 0), .inl v1] (hM s) 0 0 (dp_R (some (.inl o)) (hM s)) := dp_C_of okX6_reached [some (.inr (some 0)), some (.inl v1)] rfl (Nat.le_of_ble_eq_true rfl) (we_X6_reached s v1 o h ⟨rfl, rfl⟩)
def jj_X6_triesSets_139 (s : dp_Z) (v1 v2 : Int32) : Option ((dp_Z × Int32) ⊕ dp_Z) := (some (.inl (s, (v2 + (1 : Int32)))))
set_option maxHeartbeats 1000000 in
set_option maxRecDepth 20000 in
theorem wj_X6_triesSets_139 {post : Option dp_V → dp_H → Prop} {h0 : dp_H} (s : dp_Z) (v1 v2 : Int32) (o : ((dp_Z × Int32) ⊕ dp_Z)) (h : jj_X6_triesSets_139 s v1 v2 = some o) (hk : dp_LK (fun x : (dp_Z × Int32) => dp_W 3 mX6_triesSets false h0 0 0 post 0 0 (17, [some (.inr (some 0)), some (.inl v1), some (.inl x.2), none], [], (hM x.1))) (fun x : dp_Z => dp_W 3 mX6_triesSets false h0 0 0 post 0 0 (145, [none, none, none, none], [], (hM x))) o) : dp_W 3 mX6_triesSets false h0 0 0 post 0 0 (139, [some (.inr (some 0)), some (.inl v1), some (.inl v2), none], [], (hM s)) := by
  unfold jj_X6_triesSets_139 at h
  refine dp_blk okX6_triesSets 2 (S' := (17, [some (.inr (some 0)), some (.inl v1), some (.inl (v2 + (1 : Int32))), none], [], (hM s))) rfl ?_
  cases h
  exact hk
def jj_X6_triesSets_136 (s : dp_Z) (v1 v2 t0 : Int32) : Option ((dp_Z × Int32) ⊕ dp_Z) := (dp_bd (some (dp_sf s 8 t0)) fun s13 => (jj_X6_triesSets_139 s13 v1 v2))
set_option maxHeartbeats 1000000 in
set_option maxRecDepth 20000 in
theorem wj_X6_triesSets_136 {post : Option dp_V → dp_H → Prop} {h0 : dp_H} (s : dp_Z) (v1 v2 t0 : Int32) (o : ((dp_Z × Int32) ⊕ dp_Z)) (h : jj_X6_triesSets_136 s v1 v2 t0 = some o) (hk : dp_LK (fun x : (dp_Z × Int32) => dp_W 3 mX6_triesSets false h0 0 0 post 0 0 (17, [some (.inr (some 0)), some (.inl v1), some (.inl x.2), none], [], (hM x.1))) (fun x : dp_Z => dp_W 3 mX6_triesSets false h0 0 0 post 0 0 (145, [none, none, none, none], [], (hM x))) o) : dp_W 3 mX6_triesSets false h0 0 0 post 0 0 (136, [some (.inr (some 0)), some (.inl v1), some (.inl v2), none], [.inl t0, .inr (some 0)], (hM s)) := by
  unfold jj_X6_triesSets_136 at h
  obtain ⟨s13, hs, h⟩ := dp_bd_inv h
  have hs := Option.some.inj hs
  refine dp_pfe okX6_triesSets rfl (by decide) (qhM_0 s) (Nat.le_of_ble_eq_true rfl) ((phM_8 s t0).trans (congrArg hM hs)) ?_
  refine dp_blk okX6_triesSets 0 (S' := (139, [some (.inr (some 0)), some (.inl v1), some (.inl v2), none], [], (hM s13))) rfl ?_
  exact wj_X6_triesSets_139 s13 v1 v2 _ h hk
def jj_X6_triesSets_128 (s : dp_Z) (v1 v2 : Int32) : Option ((dp_Z × Int32) ⊕ dp_Z) := (jj_X6_triesSets_136 s v1 v2 v2)
set_option maxHeartbeats 1000000 in
set_option maxRecDepth 20000 in
theorem wj_X6_triesSets_128 {post : Option dp_V → dp_H → Prop} {h0 : dp_H} (s : dp_Z) (v1 v2 : Int32) (o : ((dp_Z × Int32) ⊕ dp_Z)) (h : jj_X6_triesSets_128 s v1 v2 = some o) (hk : dp_LK (fun x : (dp_Z × Int32) => dp_W 3 mX6_triesSets false h0 0 0 post 0 0 (17, [some (.inr (some 0)), some (.inl v1), some (.inl x.2), none], [], (hM x.1))) (fun x : dp_Z => dp_W 3 mX6_triesSets false h0 0 0 post 0 0 (145, [none, none, none, none], [], (hM x))) o) : dp_W 3 mX6_triesSets false h0 0 0 post 0 0 (128, [some (.inr (some 0)), some (.inl v1), some (.inl v2), none], [.inr (some 0)], (hM s)) := by
  unfold jj_X6_triesSets_128 at h
  refine dp_blk okX6_triesSets 2 (S' := (136, [some (.inr (some 0)), some (.inl v1), some (.inl v2), none], [.inl v2, .inr (some 0)], (hM s))) rfl ?_
  exact wj_X6_triesSets_136 s v1 v2 v2 _ h hk
def jj_X6_triesSets_132 (s : dp_Z) (v1 v2 : Int32) : Option ((dp_Z × Int32) ⊕ dp_Z) := (jj_X6_triesSets_136 s v1 v2 (s.1 8))
set_option maxHeartbeats 1000000 in
set_option maxRecDepth 20000 in
theorem wj_X6_triesSets_132 {post : Option dp_V → dp_H → Prop} {h0 : dp_H} (s : dp_Z) (v1 v2 : Int32) (o : ((dp_Z × Int32) ⊕ dp_Z)) (h : jj_X6_triesSets_132 s v1 v2 = some o) (hk : dp_LK (fun x : (dp_Z × Int32) => dp_W 3 mX6_triesSets false h0 0 0 post 0 0 (17, [some (.inr (some 0)), some (.inl v1), some (.inl x.2), none], [], (hM x.1))) (fun x : dp_Z => dp_W 3 mX6_triesSets false h0 0 0 post 0 0 (145, [none, none, none, none], [], (hM x))) o) : dp_W 3 mX6_triesSets false h0 0 0 post 0 0 (132, [some (.inr (some 0)), some (.inl v1), some (.inl v2), none], [.inr (some 0)], (hM s)) := by
  unfold jj_X6_triesSets_132 at h
  refine dp_blk okX6_triesSets 2 (S' := (136, [some (.inr (some 0)), some (.inl v1), some (.inl v2), none], [.inl (s.1 8), .inr (some 0)], (hM s))) rfl ?_
  exact wj_X6_triesSets_136 s v1 v2 (s.1 8) _ h hk
def jj_X6_triesSets_78 (s : dp_Z) (v1 v2 t0 t1 : Int32) : Option ((dp_Z × Int32) ⊕ dp_Z) := (dp_bd (some (dp_sf s 10 (t1 + t0))) fun s8 => (dp_bd (j_X6_cutBy s8 v2 v1) fun x9 => (dp_bd (j_X6_size x9) fun x10 => (dp_bd (j_X6_cutBy s8 (s8.1 8) v1) fun x11 => (dp_bd (j_X6_size x11) fun x12 => (if (0 : Int32) < (x10 - x12) then (jj_X6_triesSets_128 s8 v1 v2) else (if (x10 - x12) = (0 : Int32) then (dp_bd (j_X6_size v2) fun x14 => (dp_bd (j_X6_size (s8.1 8)) fun x15 => (if x15 ≤ x14 then (jj_X6_triesSets_132 s8 v1 v2) else (jj_X6_triesSets_128 s8 v1 v2)))) else (jj_X6_triesSets_132 s8 v1 v2))))))))
set_option maxHeartbeats 1000000 in
set_option maxRecDepth 20000 in
theorem wj_X6_triesSets_78 {post : Option dp_V → dp_H → Prop} {h0 : dp_H} (s : dp_Z) (v1 v2 t0 t1 : Int32) (o : ((dp_Z × Int32) ⊕ dp_Z)) (h : jj_X6_triesSets_78 s v1 v2 t0 t1 = some o) (hk : dp_LK (fun x : (dp_Z × Int32) => dp_W 3 mX6_triesSets false h0 0 0 post 0 0 (17, [some (.inr (some 0)), some (.inl v1), some (.inl x.2), none], [], (hM x.1))) (fun x : dp_Z => dp_W 3 mX6_triesSets false h0 0 0 post 0 0 (145, [none, none, none, none], [], (hM x))) o) : dp_W 3 mX6_triesSets false h0 0 0 post 0 0 (78, [some (.inr (some 0)), some (.inl v1), some (.inl v2), none], [.inl t0, .inl t1, .inr (some 0)], (hM s)) := by
  unfold jj_X6_triesSets_78 at h
  refine dp_blk okX6_triesSets 1 (S' := (79, [some (.inr (some 0)), some (.inl v1), some (.inl v2), none], [.inl (t1 + t0), .inr (some 0)], (hM s))) rfl ?_
  obtain ⟨s8, hs, h⟩ := dp_bd_inv h
  have hs := Option.some.inj hs
  refine dp_pfe okX6_triesSets rfl (by decide) (qhM_0 s) (Nat.le_of_ble_eq_true rfl) ((phM_10 s (t1 + t0)).trans (congrArg hM hs)) ?_
  refine dp_blk okX6_triesSets 3 (S' := (85, [some (.inr (some 0)), some (.inl v1), some (.inl v2), none], [.inl v1, .inl v2, .inr (some 0)], (hM s8))) rfl ?_
  obtain ⟨x9, hc, h⟩ := dp_bd_inv h
  refine dp_cV okX6_triesSets okX6_cutBy (as := [.inl v2, .inl v1]) (r := []) rfl lk_NearLiarsModel_149 npX6_cutBy (c_X6_cutBy s8 v2 v1 x9 hc) rfl rfl rfl rfl (Nat.le_of_ble_eq_true rfl) (Nat.le_of_ble_eq_true rfl) (Nat.le_refl _) (Nat.le_refl _) ?_
  refine dp_blk okX6_triesSets 0 (S' := (88, [some (.inr (some 0)), some (.inl v1), some (.inl v2), none], [.inl x9], (hM s8))) rfl ?_
  obtain ⟨x10, hc, h⟩ := dp_bd_inv h
  refine dp_cS okX6_triesSets okX6_size (as := [.inl x9]) (r := []) rfl lk_NearLiarsModel_115 npX6_size (c_X6_size (hM s8) x9 x10 hc) rfl (Nat.le_of_ble_eq_true rfl) (Nat.le_of_ble_eq_true rfl) (Nat.le_refl _) (Nat.le_refl _) ?_
  refine dp_blk okX6_triesSets 4 (S' := (97, [some (.inr (some 0)), some (.inl v1), some (.inl v2), none], [.inl v1, .inl (s8.1 8), .inr (some 0), .inl x10], (hM s8))) rfl ?_
  obtain ⟨x11, hc, h⟩ := dp_bd_inv h
  refine dp_cV okX6_triesSets okX6_cutBy (as := [.inl (s8.1 8), .inl v1]) (r := [.inl x10]) rfl lk_NearLiarsModel_149 npX6_cutBy (c_X6_cutBy s8 (s8.1 8) v1 x11 hc) rfl rfl rfl rfl (Nat.le_of_ble_eq_true rfl) (Nat.le_of_ble_eq_true rfl) (Nat.le_refl _) (Nat.le_refl _) ?_
  refine dp_blk okX6_triesSets 0 (S' := (100, [some (.inr (some 0)), some (.inl v1), some (.inl v2), none], [.inl x11, .inl x10], (hM s8))) rfl ?_
  obtain ⟨x12, hc, h⟩ := dp_bd_inv h
  refine dp_cS okX6_triesSets okX6_size (as := [.inl x11]) (r := [.inl x10]) rfl lk_NearLiarsModel_115 npX6_size (c_X6_size (hM s8) x11 x12 hc) rfl (Nat.le_of_ble_eq_true rfl) (Nat.le_of_ble_eq_true rfl) (Nat.le_refl _) (Nat.le_refl _) ?_
  refine dp_blk okX6_triesSets 4 (S' := (107, [some (.inr (some 0)), some (.inl v1), some (.inl v2), some (.inl (x10 - x12))], [.inl (x10 - x12), .inr (some 0)], (hM s8))) rfl ?_
  refine dp_if0 okX6_triesSets rfl (fun (c : (0 : Int32) < (x10 - x12)) => ?_) (fun (c : ¬ (0 : Int32) < (x10 - x12)) => ?_)
  · have h := dp_ip c h
    refine dp_blk okX6_triesSets 0 (S' := (128, [some (.inr (some 0)), some (.inl v1), some (.inl v2), some (.inl (x10 - x12))], [.inr (some 0)], (hM s8))) rfl ?_
    refine dp_fg [true, true, true, false] (L' := [some (.inr (some 0)), some (.inl v1), some (.inl v2), none]) rfl rfl ?_
    exact wj_X6_triesSets_128 s8 v1 v2 _ h hk
  · have h := dp_ic c h
    refine dp_blk okX6_triesSets 1 (S' := (111, [some (.inr (some 0)), some (.inl v1), some (.inl v2), some (.inl (x10 - x12))], [.inl (x10 - x12), .inr (some 0)], (hM s8))) rfl ?_
    refine dp_if0 okX6_triesSets rfl (fun (c : ¬ (x10 - x12) = (0 : Int32)) => ?_) (fun (c : (x10 - x12) = (0 : Int32)) => ?_)
    · have h := dp_ic c h
      refine dp_blk okX6_triesSets 0 (S' := (132, [some (.inr (some 0)), some (.inl v1), some (.inl v2), some (.inl (x10 - x12))], [.inr (some 0)], (hM s8))) rfl ?_
      refine dp_fg [true, true, true, false] (L' := [some (.inr (some 0)), some (.inl v1), some (.inl v2), none]) rfl rfl ?_
      exact wj_X6_triesSets_132 s8 v1 v2 _ h hk
    · have h := dp_ip c h
      refine dp_blk okX6_triesSets 1 (S' := (115, [some (.inr (some 0)), some (.inl v1), some (.inl v2), some (.inl (x10 - x12))], [.inl v2, .inr (some 0)], (hM s8))) rfl ?_
      obtain ⟨x14, hc, h⟩ := dp_bd_inv h
      refine dp_cS okX6_triesSets okX6_size (as := [.inl v2]) (r := [.inr (some 0)]) rfl lk_NearLiarsModel_115 npX6_size (c_X6_size (hM s8) v2 x14 hc) rfl (Nat.le_of_ble_eq_true rfl) (Nat.le_of_ble_eq_true rfl) (Nat.le_refl _) (Nat.le_refl _) ?_
      refine dp_blk okX6_triesSets 2 (S' := (122, [some (.inr (some 0)), some (.inl v1), some (.inl v2), some (.inl (x10 - x12))], [.inl (s8.1 8), .inl x14, .inr (some 0)], (hM s8))) rfl ?_
      obtain ⟨x15, hc, h⟩ := dp_bd_inv h
      refine dp_cS okX6_triesSets okX6_size (as := [.inl (s8.1 8)]) (r := [.inl x14, .inr (some 0)]) rfl lk_NearLiarsModel_115 npX6_size (c_X6_size (hM s8) (s8.1 8) x15 hc) rfl (Nat.le_of_ble_eq_true rfl) (Nat.le_of_ble_eq_true rfl) (Nat.le_refl _) (Nat.le_refl _) ?_
      refine dp_blk okX6_triesSets 0 (S' := (125, [some (.inr (some 0)), some (.inl v1), some (.inl v2), some (.inl (x10 - x12))], [.inl x15, .inl x14, .inr (some 0)], (hM s8))) rfl ?_
      refine dp_if okX6_triesSets rfl (fun (c : x15 ≤ x14) => ?_) (fun (c : ¬ x15 ≤ x14) => ?_)
      · have h := dp_ip c h
        refine dp_blk okX6_triesSets 0 (S' := (132, [some (.inr (some 0)), some (.inl v1), some (.inl v2), some (.inl (x10 - x12))], [.inr (some 0)], (hM s8))) rfl ?_
        refine dp_fg [true, true, true, false] (L' := [some (.inr (some 0)), some (.inl v1), some (.inl v2), none]) rfl rfl ?_
        exact wj_X6_triesSets_132 s8 v1 v2 _ h hk
      · have h := dp_ic c h
        refine dp_blk okX6_triesSets 0 (S' := (128, [some (.inr (some 0)), some (.inl v1), some (.inl v2), some (.inl (x10 - x12))], [.inr (some 0)], (hM s8))) rfl ?_
        refine dp_fg [true, true, true, false] (L' := [some (.inr (some 0)), some (.inl v1), some (.inl v2), none]) rfl rfl ?_
        exact wj_X6_triesSets_128 s8 v1 v2 _ h hk
def jb_X6_triesSets_17 (v1 : Int32) (x : (dp_Z × Int32)) : Option ((dp_Z × Int32) ⊕ dp_Z) := (if ((1 : Int32) <<< ((x.1.1 0) &&& 31)) ≤ x.2 then (some (.inr x.1)) else (dp_bd (j_X6_has x.2 (x.1.1 3)) fun x4 => (if x4 = (0 : Int32) then (dp_bd (j_X6_crowdedBy x.1 x.2 v1) fun x5 => (if x5 = (-9 : Int32) then (dp_bd (some (dp_sf x.1 9 ((x.1.1 9) + (1 : Int32)))) fun s6 => (dp_bd (j_X6_cutBy s6 x.2 v1) fun x7 => (if x7 = (0 : Int32) then (jj_X6_triesSets_78 s6 v1 x.2 (0 : Int32) (s6.1 10)) else (jj_X6_triesSets_78 s6 v1 x.2 (1 : Int32) (s6.1 10))))) else (jj_X6_triesSets_139 x.1 v1 x.2))) else (jj_X6_triesSets_139 x.1 v1 x.2))))
set_option maxHeartbeats 1000000 in
set_option maxRecDepth 20000 in
theorem wl_X6_triesSets_17 {post : Option dp_V → dp_H → Prop} {h0 : dp_H} (v1 : Int32) (x : (dp_Z × Int32)) (o : ((dp_Z × Int32) ⊕ dp_Z)) (h : jb_X6_triesSets_17 v1 x = some o) (hk : dp_LK (fun x : (dp_Z × Int32) => dp_W 3 mX6_triesSets false h0 0 0 post 0 0 (17, [some (.inr (some 0)), some (.inl v1), some (.inl x.2), none], [], (hM x.1))) (fun x : dp_Z => dp_W 3 mX6_triesSets false h0 0 0 post 0 0 (145, [none, none, none, none], [], (hM x))) o) : dp_W 3 mX6_triesSets false h0 0 0 post 0 0 (17, [some (.inr (some 0)), some (.inl v1), some (.inl x.2), none], [], (hM x.1)) := by
  unfold jb_X6_triesSets_17 at h
  refine dp_blk okX6_triesSets 5 (S' := (24, [some (.inr (some 0)), some (.inl v1), some (.inl x.2), none], [.inl ((1 : Int32) <<< ((x.1.1 0) &&& 31)), .inl x.2], (hM x.1))) rfl ?_
  refine dp_if okX6_triesSets rfl (fun (c : ((1 : Int32) <<< ((x.1.1 0) &&& 31)) ≤ x.2) => ?_) (fun (c : ¬ ((1 : Int32) <<< ((x.1.1 0) &&& 31)) ≤ x.2) => ?_)
  · have h := dp_ip c h
    refine dp_blk okX6_triesSets 0 (S' := (145, [some (.inr (some 0)), some (.inl v1), some (.inl x.2), none], [], (hM x.1))) rfl ?_
    cases h
    refine dp_fg [false, false, false, false] (L' := [none, none, none, none]) rfl rfl ?_
    exact hk
  · have h := dp_ic c h
    refine dp_blk okX6_triesSets 3 (S' := (32, [some (.inr (some 0)), some (.inl v1), some (.inl x.2), none], [.inl (x.1.1 3), .inl x.2], (hM x.1))) rfl ?_
    obtain ⟨x4, hc, h⟩ := dp_bd_inv h
    refine dp_cS okX6_triesSets okX6_has (as := [.inl x.2, .inl (x.1.1 3)]) (r := []) rfl lk_NearLiarsModel_93 npX6_has (c_X6_has (hM x.1) x.2 (x.1.1 3) x4 hc) rfl (Nat.le_of_ble_eq_true rfl) (Nat.le_of_ble_eq_true rfl) (Nat.le_refl _) (Nat.le_refl _) ?_
    refine dp_blk okX6_triesSets 0 (S' := (35, [some (.inr (some 0)), some (.inl v1), some (.inl x.2), none], [.inl x4], (hM x.1))) rfl ?_
    refine dp_if0 okX6_triesSets rfl (fun (c : ¬ x4 = (0 : Int32)) => ?_) (fun (c : x4 = (0 : Int32)) => ?_)
    · have h := dp_ic c h
      refine dp_blk okX6_triesSets 0 (S' := (139, [some (.inr (some 0)), some (.inl v1), some (.inl x.2), none], [], (hM x.1))) rfl ?_
      exact wj_X6_triesSets_139 x.1 v1 x.2 _ h hk
    · have h := dp_ip c h
      refine dp_blk okX6_triesSets 3 (S' := (41, [some (.inr (some 0)), some (.inl v1), some (.inl x.2), none], [.inl v1, .inl x.2, .inr (some 0)], (hM x.1))) rfl ?_
      obtain ⟨x5, hc, h⟩ := dp_bd_inv h
      refine dp_cV okX6_triesSets okX6_crowdedBy (as := [.inl x.2, .inl v1]) (r := []) rfl lk_NearLiarsModel_146 npX6_crowdedBy (c_X6_crowdedBy x.1 x.2 v1 x5 hc) rfl rfl rfl rfl (Nat.le_of_ble_eq_true rfl) (Nat.le_of_ble_eq_true rfl) (Nat.le_refl _) (Nat.le_refl _) ?_
      refine dp_blk okX6_triesSets 1 (S' := (46, [some (.inr (some 0)), some (.inl v1), some (.inl x.2), none], [.inl (-9 : Int32), .inl x5], (hM x.1))) rfl ?_
      refine dp_if okX6_triesSets rfl (fun (c : ¬ x5 = (-9 : Int32)) => ?_) (fun (c : x5 = (-9 : Int32)) => ?_)
      · have h := dp_ic c h
        refine dp_blk okX6_triesSets 0 (S' := (139, [some (.inr (some 0)), some (.inl v1), some (.inl x.2), none], [], (hM x.1))) rfl ?_
        exact wj_X6_triesSets_139 x.1 v1 x.2 _ h hk
      · have h := dp_ip c h
        refine dp_blk okX6_triesSets 5 (S' := (56, [some (.inr (some 0)), some (.inl v1), some (.inl x.2), none], [.inl ((x.1.1 9) + (1 : Int32)), .inr (some 0)], (hM x.1))) rfl ?_
        obtain ⟨s6, hs, h⟩ := dp_bd_inv h
        have hs := Option.some.inj hs
        refine dp_pfe okX6_triesSets rfl (by decide) (qhM_0 x.1) (Nat.le_of_ble_eq_true rfl) ((phM_9 x.1 ((x.1.1 9) + (1 : Int32))).trans (congrArg hM hs)) ?_
        refine dp_blk okX6_triesSets 6 (S' := (67, [some (.inr (some 0)), some (.inl v1), some (.inl x.2), none], [.inl v1, .inl x.2, .inr (some 0), .inl (s6.1 10), .inr (some 0)], (hM s6))) rfl ?_
        obtain ⟨x7, hc, h⟩ := dp_bd_inv h
        refine dp_cV okX6_triesSets okX6_cutBy (as := [.inl x.2, .inl v1]) (r := [.inl (s6.1 10), .inr (some 0)]) rfl lk_NearLiarsModel_149 npX6_cutBy (c_X6_cutBy s6 x.2 v1 x7 hc) rfl rfl rfl rfl (Nat.le_of_ble_eq_true rfl) (Nat.le_of_ble_eq_true rfl) (Nat.le_refl _) (Nat.le_refl _) ?_
        refine dp_blk okX6_triesSets 0 (S' := (70, [some (.inr (some 0)), some (.inl v1), some (.inl x.2), none], [.inl x7, .inl (s6.1 10), .inr (some 0)], (hM s6))) rfl ?_
        refine dp_if0 okX6_triesSets rfl (fun (c : x7 = (0 : Int32)) => ?_) (fun (c : ¬ x7 = (0 : Int32)) => ?_)
        · have h := dp_ip c h
          refine dp_blk okX6_triesSets 1 (S' := (78, [some (.inr (some 0)), some (.inl v1), some (.inl x.2), none], [.inl (0 : Int32), .inl (s6.1 10), .inr (some 0)], (hM s6))) rfl ?_
          exact wj_X6_triesSets_78 s6 v1 x.2 (0 : Int32) (s6.1 10) _ h hk
        · have h := dp_ic c h
          refine dp_blk okX6_triesSets 2 (S' := (78, [some (.inr (some 0)), some (.inl v1), some (.inl x.2), none], [.inl (1 : Int32), .inl (s6.1 10), .inr (some 0)], (hM s6))) rfl ?_
          exact wj_X6_triesSets_78 s6 v1 x.2 (1 : Int32) (s6.1 10) _ h hk
def j_X6_triesSets (s : dp_Z) (v1 : Int32) : Option dp_Z := (dp_bd (some (dp_sf s 8 (0 : Int32))) fun s1 => (dp_bd (some (dp_sf s1 9 (0 : Int32))) fun s2 => (dp_bd (some (dp_sf s2 10 (0 : Int32))) fun s3 => (dp_bd (dp_loop (jb_X6_triesSets_17 v1) dp_F (s3, (0 : Int32))) fun x16 => (some x16)))))
set_option maxHeartbeats 1000000 in
set_option maxRecDepth 20000 in
theorem we_X6_triesSets {post : Option dp_V → dp_H → Prop} {h0 : dp_H} (s : dp_Z) (v1 : Int32) (o : dp_Z) (h : j_X6_triesSets s v1 = some o) (hk : post none (hM o)) : dp_W 3 mX6_triesSets false h0 0 0 post 0 0 (0, [some (.inr (some 0)), some (.inl v1), none, none], [], (hM s)) := by
  unfold j_X6_triesSets at h
  refine dp_blk okX6_triesSets 2 (S' := (2, [some (.inr (some 0)), some (.inl v1), none, none], [.inl (0 : Int32), .inr (some 0)], (hM s))) rfl ?_
  obtain ⟨s1, hs, h⟩ := dp_bd_inv h
  have hs := Option.some.inj hs
  refine dp_pfe okX6_triesSets rfl (by decide) (qhM_0 s) (Nat.le_of_ble_eq_true rfl) ((phM_8 s (0 : Int32)).trans (congrArg hM hs)) ?_
  refine dp_blk okX6_triesSets 2 (S' := (7, [some (.inr (some 0)), some (.inl v1), none, none], [.inl (0 : Int32), .inr (some 0)], (hM s1))) rfl ?_
  obtain ⟨s2, hs, h⟩ := dp_bd_inv h
  have hs := Option.some.inj hs
  refine dp_pfe okX6_triesSets rfl (by decide) (qhM_0 s1) (Nat.le_of_ble_eq_true rfl) ((phM_9 s1 (0 : Int32)).trans (congrArg hM hs)) ?_
  refine dp_blk okX6_triesSets 2 (S' := (12, [some (.inr (some 0)), some (.inl v1), none, none], [.inl (0 : Int32), .inr (some 0)], (hM s2))) rfl ?_
  obtain ⟨s3, hs, h⟩ := dp_bd_inv h
  have hs := Option.some.inj hs
  refine dp_pfe okX6_triesSets rfl (by decide) (qhM_0 s2) (Nat.le_of_ble_eq_true rfl) ((phM_10 s2 (0 : Int32)).trans (congrArg hM hs)) ?_
  refine dp_blk okX6_triesSets 2 (S' := (17, [some (.inr (some 0)), some (.inl v1), some (.inl (0 : Int32)), none], [], (hM s3))) rfl ?_
  obtain ⟨x16, hl, h⟩ := dp_bd_inv h
  refine dp_loopW (wl_X6_triesSets_17 v1) dp_F (s3, (0 : Int32)) x16 hl ?_
  show dp_W 3 mX6_triesSets false h0 0 0 post 0 0 (145, [none, none, none, none], [], (hM x16))
  refine dp_blk okX6_triesSets 0 (S' := (145, [none, none, none, none], [], (hM x16))) rfl ?_
  cases h
  exact dp_vret okX6_triesSets rfl rfl hk
theorem c_X6_triesSets (s : dp_Z) (v1 : Int32) (o : dp_Z) (h : j_X6_triesSets s v1 = some o) : dp_C 3 mX6_triesSets false [.inr (some 0), .inl v1] (hM s) 0 0 (dp_R none (hM o)) := dp_C_of okX6_triesSets [some (.inr (some 0)), some (.inl v1), none, none] rfl (Nat.le_of_ble_eq_true rfl) (we_X6_triesSets s v1 o h ⟨rfl, rfl⟩)
def j_X6_worst (s : dp_Z) (v1 : Int32) : Option (Int32 × dp_Z) := (dp_bd (j_X6_within v1 (0 : Int32) (3 : Int32)) fun x1 => (if x1 = (0 : Int32) then (some ((-2 : Int32), s)) else (dp_bd (j_X6_triesSets s (s.1 5)) fun x2 => (if v1 = (0 : Int32) then (some ((x2.1 8), x2)) else (if v1 = (1 : Int32) then (dp_bd (j_X6_cutBy x2 (x2.1 8) (x2.1 5)) fun x3 => (some (x3, x2))) else (if v1 = (2 : Int32) then (some ((x2.1 9), x2)) else (some ((x2.1 10), x2))))))))
set_option maxHeartbeats 1000000 in
set_option maxRecDepth 20000 in
theorem we_X6_worst {post : Option dp_V → dp_H → Prop} {h0 : dp_H} (s : dp_Z) (v1 : Int32) (o : (Int32 × dp_Z)) (h : j_X6_worst s v1 = some o) (hk : post (some (.inl o.1)) (hM o.2)) : dp_W 4 mX6_worst false h0 0 0 post 0 0 (0, [some (.inr (some 0)), some (.inl v1)], [], (hM s)) := by
  unfold j_X6_worst at h
  refine dp_blk okX6_worst 3 (S' := (3, [some (.inr (some 0)), some (.inl v1)], [.inl (3 : Int32), .inl (0 : Int32), .inl v1], (hM s))) rfl ?_
  obtain ⟨x1, hc, h⟩ := dp_bd_inv h
  refine dp_cS okX6_worst okX6_within (as := [.inl v1, .inl (0 : Int32), .inl (3 : Int32)]) (r := []) rfl lk_NearLiarsModel_63 npX6_within (c_X6_within (hM s) v1 (0 : Int32) (3 : Int32) x1 hc) rfl (Nat.le_of_ble_eq_true rfl) (Nat.le_of_ble_eq_true rfl) (Nat.le_refl _) (Nat.le_refl _) ?_
  refine dp_blk okX6_worst 0 (S' := (6, [some (.inr (some 0)), some (.inl v1)], [.inl x1], (hM s))) rfl ?_
  refine dp_if0 okX6_worst rfl (fun (c : ¬ x1 = (0 : Int32)) => ?_) (fun (c : x1 = (0 : Int32)) => ?_)
  · have h := dp_ic c h
    refine dp_blk okX6_worst 3 (S' := (17, [some (.inr (some 0)), some (.inl v1)], [.inl (s.1 5), .inr (some 0)], (hM s))) rfl ?_
    obtain ⟨x2, hc, h⟩ := dp_bd_inv h
    refine dp_cV okX6_worst okX6_triesSets (as := [.inl (s.1 5)]) (r := []) rfl lk_NearLiarsModel_161 npX6_triesSets (c_X6_triesSets s (s.1 5) x2 hc) rfl rfl rfl rfl (Nat.le_of_ble_eq_true rfl) (Nat.le_of_ble_eq_true rfl) (Nat.le_refl _) (Nat.le_refl _) ?_
    refine dp_blk okX6_worst 1 (S' := (21, [some (.inr (some 0)), some (.inl v1)], [.inl v1], (hM x2))) rfl ?_
    by_cases c0 : v1 = (0 : Int32)
    · have h := dp_ip c0 h
      refine dp_swI okX6_worst (tgt := 48) rfl (by rw [c0]; exact ⟨by decide, by decide, rfl, by decide⟩) ?_
      refine dp_blk okX6_worst 2 (S' := (52, [some (.inr (some 0)), some (.inl v1)], [.inl (x2.1 8)], (hM x2))) rfl ?_
      cases h
      exact dp_iret okX6_worst rfl rfl hk
    have h := dp_ic c0 h
    by_cases c1 : v1 = (1 : Int32)
    · have h := dp_ip c1 h
      refine dp_swI okX6_worst (tgt := 53) rfl (by rw [c1]; exact ⟨by decide, by decide, rfl, by decide⟩) ?_
      refine dp_blk okX6_worst 5 (S' := (62, [some (.inr (some 0)), some (.inl v1)], [.inl (x2.1 5), .inl (x2.1 8), .inr (some 0)], (hM x2))) rfl ?_
      obtain ⟨x3, hc, h⟩ := dp_bd_inv h
      refine dp_cV okX6_worst okX6_cutBy (as := [.inl (x2.1 8), .inl (x2.1 5)]) (r := []) rfl lk_NearLiarsModel_149 npX6_cutBy (c_X6_cutBy x2 (x2.1 8) (x2.1 5) x3 hc) rfl rfl rfl rfl (Nat.le_of_ble_eq_true rfl) (Nat.le_of_ble_eq_true rfl) (Nat.le_refl _) (Nat.le_refl _) ?_
      refine dp_blk okX6_worst 0 (S' := (65, [some (.inr (some 0)), some (.inl v1)], [.inl x3], (hM x2))) rfl ?_
      cases h
      exact dp_iret okX6_worst rfl rfl hk
    have h := dp_ic c1 h
    by_cases c2 : v1 = (2 : Int32)
    · have h := dp_ip c2 h
      refine dp_swI okX6_worst (tgt := 66) rfl (by rw [c2]; exact ⟨by decide, by decide, rfl, by decide⟩) ?_
      refine dp_blk okX6_worst 2 (S' := (70, [some (.inr (some 0)), some (.inl v1)], [.inl (x2.1 9)], (hM x2))) rfl ?_
      cases h
      exact dp_iret okX6_worst rfl rfl hk
    have h := dp_ic c2 h
    refine dp_swO okX6_worst (tgt := 71) rfl (dp_out 2 (by decide) (fun j hj => ?_)) (by decide) ?_
    · rcases (show j = 0 ∨ j = 1 ∨ j = 2 by omega) with rfl | rfl | rfl
      · exact c0
      · exact c1
      · exact c2
    refine dp_blk okX6_worst 2 (S' := (75, [some (.inr (some 0)), some (.inl v1)], [.inl (x2.1 10)], (hM x2))) rfl ?_
    cases h
    exact dp_iret okX6_worst rfl rfl hk
  · have h := dp_ip c h
    refine dp_blk okX6_worst 1 (S' := (11, [some (.inr (some 0)), some (.inl v1)], [.inl (-2 : Int32)], (hM s))) rfl ?_
    cases h
    exact dp_iret okX6_worst rfl rfl hk
theorem c_X6_worst (s : dp_Z) (v1 : Int32) (o : (Int32 × dp_Z)) (h : j_X6_worst s v1 = some o) : dp_C 4 mX6_worst false [.inr (some 0), .inl v1] (hM s) 0 0 (dp_R (some (.inl o.1)) (hM o.2)) := dp_C_of okX6_worst [some (.inr (some 0)), some (.inl v1)] rfl (Nat.le_of_ble_eq_true rfl) (we_X6_worst s v1 o h ⟨rfl, rfl⟩)
def jj_X6_bears_28 (s : dp_Z) (v2 t0 : Int32) : Option ((dp_Z × Int32 × Int32) ⊕ (dp_Z × Int32)) := (some (.inl (s, t0, (v2 + (1 : Int32)))))
set_option maxHeartbeats 1000000 in
set_option maxRecDepth 20000 in
theorem wj_X6_bears_28 {post : Option dp_V → dp_H → Prop} {h0 : dp_H} (s : dp_Z) (v2 t0 : Int32) (o : ((dp_Z × Int32 × Int32) ⊕ (dp_Z × Int32))) (h : jj_X6_bears_28 s v2 t0 = some o) (hk : dp_LK (fun x : (dp_Z × Int32 × Int32) => dp_W 4 mX6_bears false h0 0 0 post 0 0 (5, [some (.inr (some 0)), some (.inl x.2.1), some (.inl x.2.2)], [], (hM x.1))) (fun x : (dp_Z × Int32) => dp_W 4 mX6_bears false h0 0 0 post 0 0 (35, [none, some (.inl x.2), none], [], (hM x.1))) o) : dp_W 4 mX6_bears false h0 0 0 post 0 0 (28, [some (.inr (some 0)), none, some (.inl v2)], [.inl t0], (hM s)) := by
  unfold jj_X6_bears_28 at h
  refine dp_blk okX6_bears 3 (S' := (5, [some (.inr (some 0)), some (.inl t0), some (.inl (v2 + (1 : Int32)))], [], (hM s))) rfl ?_
  cases h
  exact hk
def jb_X6_bears_5 (x : (dp_Z × Int32 × Int32)) : Option ((dp_Z × Int32 × Int32) ⊕ (dp_Z × Int32)) := (if (6 : Int32) < x.2.2 then (some (.inr (x.1, x.2.1))) else (dp_bd (j_X6_triesSets x.1 x.2.2) fun x1 => (if (x1.1 10) = (0 : Int32) then (jj_X6_bears_28 x1 x.2.2 x.2.2) else (jj_X6_bears_28 x1 x.2.2 x.2.1))))
set_option maxHeartbeats 1000000 in
set_option maxRecDepth 20000 in
theorem wl_X6_bears_5 {post : Option dp_V → dp_H → Prop} {h0 : dp_H} (x : (dp_Z × Int32 × Int32)) (o : ((dp_Z × Int32 × Int32) ⊕ (dp_Z × Int32))) (h : jb_X6_bears_5 x = some o) (hk : dp_LK (fun x : (dp_Z × Int32 × Int32) => dp_W 4 mX6_bears false h0 0 0 post 0 0 (5, [some (.inr (some 0)), some (.inl x.2.1), some (.inl x.2.2)], [], (hM x.1))) (fun x : (dp_Z × Int32) => dp_W 4 mX6_bears false h0 0 0 post 0 0 (35, [none, some (.inl x.2), none], [], (hM x.1))) o) : dp_W 4 mX6_bears false h0 0 0 post 0 0 (5, [some (.inr (some 0)), some (.inl x.2.1), some (.inl x.2.2)], [], (hM x.1)) := by
  unfold jb_X6_bears_5 at h
  refine dp_blk okX6_bears 2 (S' := (8, [some (.inr (some 0)), some (.inl x.2.1), some (.inl x.2.2)], [.inl (6 : Int32), .inl x.2.2], (hM x.1))) rfl ?_
  refine dp_if okX6_bears rfl (fun (c : (6 : Int32) < x.2.2) => ?_) (fun (c : ¬ (6 : Int32) < x.2.2) => ?_)
  · have h := dp_ip c h
    refine dp_blk okX6_bears 0 (S' := (35, [some (.inr (some 0)), some (.inl x.2.1), some (.inl x.2.2)], [], (hM x.1))) rfl ?_
    cases h
    refine dp_fg [false, true, false] (L' := [none, some (.inl x.2.1), none]) rfl rfl ?_
    exact hk
  · have h := dp_ic c h
    refine dp_blk okX6_bears 2 (S' := (13, [some (.inr (some 0)), some (.inl x.2.1), some (.inl x.2.2)], [.inl x.2.2, .inr (some 0)], (hM x.1))) rfl ?_
    obtain ⟨x1, hc, h⟩ := dp_bd_inv h
    refine dp_cV okX6_bears okX6_triesSets (as := [.inl x.2.2]) (r := []) rfl lk_NearLiarsModel_161 npX6_triesSets (c_X6_triesSets x.1 x.2.2 x1 hc) rfl rfl rfl rfl (Nat.le_of_ble_eq_true rfl) (Nat.le_of_ble_eq_true rfl) (Nat.le_refl _) (Nat.le_refl _) ?_
    refine dp_blk okX6_bears 2 (S' := (20, [some (.inr (some 0)), some (.inl x.2.1), some (.inl x.2.2)], [.inl (x1.1 10)], (hM x1))) rfl ?_
    refine dp_if0 okX6_bears rfl (fun (c : ¬ (x1.1 10) = (0 : Int32)) => ?_) (fun (c : (x1.1 10) = (0 : Int32)) => ?_)
    · have h := dp_ic c h
      refine dp_blk okX6_bears 1 (S' := (28, [some (.inr (some 0)), some (.inl x.2.1), some (.inl x.2.2)], [.inl x.2.1], (hM x1))) rfl ?_
      refine dp_fg [true, false, true] (L' := [some (.inr (some 0)), none, some (.inl x.2.2)]) rfl rfl ?_
      exact wj_X6_bears_28 x1 x.2.2 x.2.1 _ h hk
    · have h := dp_ip c h
      refine dp_blk okX6_bears 2 (S' := (28, [some (.inr (some 0)), some (.inl x.2.1), some (.inl x.2.2)], [.inl x.2.2], (hM x1))) rfl ?_
      refine dp_fg [true, false, true] (L' := [some (.inr (some 0)), none, some (.inl x.2.2)]) rfl rfl ?_
      exact wj_X6_bears_28 x1 x.2.2 x.2.2 _ h hk
def j_X6_bears (s : dp_Z) : Option (Int32 × dp_Z) := (dp_bd (dp_loop (jb_X6_bears_5) dp_F (s, (-9 : Int32), (1 : Int32))) fun x2 => (some (x2.2, x2.1)))
set_option maxHeartbeats 1000000 in
set_option maxRecDepth 20000 in
theorem we_X6_bears {post : Option dp_V → dp_H → Prop} {h0 : dp_H} (s : dp_Z) (o : (Int32 × dp_Z)) (h : j_X6_bears s = some o) (hk : post (some (.inl o.1)) (hM o.2)) : dp_W 4 mX6_bears false h0 0 0 post 0 0 (0, [some (.inr (some 0)), none, none], [], (hM s)) := by
  unfold j_X6_bears at h
  refine dp_blk okX6_bears 4 (S' := (5, [some (.inr (some 0)), some (.inl (-9 : Int32)), some (.inl (1 : Int32))], [], (hM s))) rfl ?_
  obtain ⟨x2, hl, h⟩ := dp_bd_inv h
  refine dp_loopW (wl_X6_bears_5) dp_F (s, (-9 : Int32), (1 : Int32)) x2 hl ?_
  show dp_W 4 mX6_bears false h0 0 0 post 0 0 (35, [none, some (.inl x2.2), none], [], (hM x2.1))
  refine dp_blk okX6_bears 1 (S' := (36, [none, some (.inl x2.2), none], [.inl x2.2], (hM x2.1))) rfl ?_
  cases h
  exact dp_iret okX6_bears rfl rfl hk
theorem c_X6_bears (s : dp_Z) (o : (Int32 × dp_Z)) (h : j_X6_bears s = some o) : dp_C 4 mX6_bears false [.inr (some 0)] (hM s) 0 0 (dp_R (some (.inl o.1)) (hM o.2)) := dp_C_of okX6_bears [some (.inr (some 0)), none, none] rfl (Nat.le_of_ble_eq_true rfl) (we_X6_bears s o h ⟨rfl, rfl⟩)
def jb_X6_name_30 (s : dp_Z) (v2 : Int32) (x : Int32) : Option (Int32 ⊕ ((Int32 × dp_Z) ⊕ Unit)) := (if (s.1 11) ≤ x then (some (.inr (.inr ()))) else (if dp_inb x 6 = true then (if ((s.2 7) (x).toNatClampNeg) = v2 then (some (.inr (.inl (x, s)))) else (some (.inl (x + (1 : Int32))))) else none))
set_option maxHeartbeats 1000000 in
set_option maxRecDepth 20000 in
theorem wl_X6_name_30 {post : Option dp_V → dp_H → Prop} {h0 : dp_H} (s : dp_Z) (v2 : Int32) (x : Int32) (o : (Int32 ⊕ ((Int32 × dp_Z) ⊕ Unit))) (h : jb_X6_name_30 s v2 x = some o) (hk : dp_LK (fun x : Int32 => dp_W 3 mX6_name false h0 0 0 post 0 0 (30, [some (.inr (some 0)), none, some (.inl v2), some (.inl x)], [], (hM s))) (dp_LK (fun o : (Int32 × dp_Z) => post (some (.inl o.1)) (hM o.2)) (fun x : Unit => dp_W 3 mX6_name false h0 0 0 post 0 0 (56, [some (.inr (some 0)), none, some (.inl v2), none], [], (hM s)))) o) : dp_W 3 mX6_name false h0 0 0 post 0 0 (30, [some (.inr (some 0)), none, some (.inl v2), some (.inl x)], [], (hM s)) := by
  unfold jb_X6_name_30 at h
  refine dp_blk okX6_name 3 (S' := (35, [some (.inr (some 0)), none, some (.inl v2), some (.inl x)], [.inl (s.1 11), .inl x], (hM s))) rfl ?_
  refine dp_if okX6_name rfl (fun (c : (s.1 11) ≤ x) => ?_) (fun (c : ¬ (s.1 11) ≤ x) => ?_)
  · have h := dp_ip c h
    refine dp_blk okX6_name 0 (S' := (56, [some (.inr (some 0)), none, some (.inl v2), some (.inl x)], [], (hM s))) rfl ?_
    cases h
    refine dp_fg [true, false, true, false] (L' := [some (.inr (some 0)), none, some (.inl v2), none]) rfl rfl ?_
    exact hk
  · have h := dp_ic c h
    refine dp_blk okX6_name 3 (S' := (43, [some (.inr (some 0)), none, some (.inl v2), some (.inl x)], [.inl x, .inr (some 8)], (hM s))) rfl ?_
    obtain ⟨hi, h⟩ := dp_ite h
    refine dp_ial (g := (s.2 7)) okX6_name rfl rfl (dp_inb_in hi) ?_
    refine dp_blk okX6_name 1 (S' := (45, [some (.inr (some 0)), none, some (.inl v2), some (.inl x)], [.inl v2, .inl ((s.2 7) (x).toNatClampNeg)], (hM s))) rfl ?_
    refine dp_if okX6_name rfl (fun (c : ¬ ((s.2 7) (x).toNatClampNeg) = v2) => ?_) (fun (c : ((s.2 7) (x).toNatClampNeg) = v2) => ?_)
    · have h := dp_ic c h
      refine dp_blk okX6_name 2 (S' := (30, [some (.inr (some 0)), none, some (.inl v2), some (.inl (x + (1 : Int32)))], [], (hM s))) rfl ?_
      cases h
      exact hk
    · have h := dp_ip c h
      refine dp_blk okX6_name 1 (S' := (49, [some (.inr (some 0)), none, some (.inl v2), some (.inl x)], [.inl x], (hM s))) rfl ?_
      cases h
      exact dp_iret okX6_name rfl rfl hk
def jj_X6_name_103 (s : dp_Z) (v2 : Int32) : Option (Int32 × dp_Z) := (if dp_inb (s.1 11) 6 = true then (dp_bd (some (dp_sr s 7 (upd (s.2 7) ((s.1 11)).toNatClampNeg v2))) fun s4 => (dp_bd (some (dp_sf s4 11 ((s4.1 11) + (1 : Int32)))) fun s5 => (some (((s5.1 11) - (1 : Int32)), s5)))) else none)
set_option maxHeartbeats 1000000 in
set_option maxRecDepth 20000 in
theorem wj_X6_name_103 {post : Option dp_V → dp_H → Prop} {h0 : dp_H} (s : dp_Z) (v2 : Int32) (o : (Int32 × dp_Z)) (h : jj_X6_name_103 s v2 = some o) (hk : post (some (.inl o.1)) (hM o.2)) : dp_W 3 mX6_name false h0 0 0 post 0 0 (103, [some (.inr (some 0)), none, some (.inl v2), none], [], (hM s)) := by
  unfold jj_X6_name_103 at h
  refine dp_blk okX6_name 5 (S' := (112, [some (.inr (some 0)), none, some (.inl v2), none], [.inl v2, .inl (s.1 11), .inr (some 8)], (hM s))) rfl ?_
  obtain ⟨hi, h⟩ := dp_ite h
  obtain ⟨s4, hs, h⟩ := dp_bd_inv h
  have hs := Option.some.inj hs
  refine dp_iase (g := (s.2 7)) okX6_name rfl rfl (dp_inb_in hi) ((ahM_7 s _).trans (congrArg hM hs)) ?_
  refine dp_blk okX6_name 5 (S' := (120, [some (.inr (some 0)), none, some (.inl v2), none], [.inl ((s4.1 11) + (1 : Int32)), .inr (some 0)], (hM s4))) rfl ?_
  obtain ⟨s5, hs, h⟩ := dp_bd_inv h
  have hs := Option.some.inj hs
  refine dp_pfe okX6_name rfl (by decide) (qhM_0 s4) (Nat.le_of_ble_eq_true rfl) ((phM_11 s4 ((s4.1 11) + (1 : Int32))).trans (congrArg hM hs)) ?_
  refine dp_blk okX6_name 4 (S' := (129, [some (.inr (some 0)), none, some (.inl v2), none], [.inl ((s5.1 11) - (1 : Int32))], (hM s5))) rfl ?_
  cases h
  exact dp_iret okX6_name rfl rfl hk
def jb_X6_name_67 (v2 : Int32) (x : (dp_Z × Int32)) : Option ((dp_Z × Int32) ⊕ dp_Z) := (if (6 : Int32) ≤ x.2 then (some (.inr x.1)) else (if dp_inb x.2 6 = true then (if dp_inb (x.2 - (1 : Int32)) 6 = true then (dp_bd (some (dp_sr x.1 7 (upd (x.1.2 7) ((x.2 - (1 : Int32))).toNatClampNeg ((x.1.2 7) (x.2).toNatClampNeg)))) fun s6 => (some (.inl (s6, (x.2 + (1 : Int32)))))) else none) else none))
set_option maxHeartbeats 1000000 in
set_option maxRecDepth 20000 in
theorem wl_X6_name_67 {post : Option dp_V → dp_H → Prop} {h0 : dp_H} (v2 : Int32) (x : (dp_Z × Int32)) (o : ((dp_Z × Int32) ⊕ dp_Z)) (h : jb_X6_name_67 v2 x = some o) (hk : dp_LK (fun x : (dp_Z × Int32) => dp_W 3 mX6_name false h0 0 0 post 0 0 (67, [some (.inr (some 0)), none, some (.inl v2), some (.inl x.2)], [], (hM x.1))) (fun x : dp_Z => dp_W 3 mX6_name false h0 0 0 post 0 0 (93, [some (.inr (some 0)), none, some (.inl v2), none], [], (hM x))) o) : dp_W 3 mX6_name false h0 0 0 post 0 0 (67, [some (.inr (some 0)), none, some (.inl v2), some (.inl x.2)], [], (hM x.1)) := by
  unfold jb_X6_name_67 at h
  refine dp_blk okX6_name 2 (S' := (70, [some (.inr (some 0)), none, some (.inl v2), some (.inl x.2)], [.inl (6 : Int32), .inl x.2], (hM x.1))) rfl ?_
  refine dp_if okX6_name rfl (fun (c : (6 : Int32) ≤ x.2) => ?_) (fun (c : ¬ (6 : Int32) ≤ x.2) => ?_)
  · have h := dp_ip c h
    refine dp_blk okX6_name 0 (S' := (93, [some (.inr (some 0)), none, some (.inl v2), some (.inl x.2)], [], (hM x.1))) rfl ?_
    cases h
    refine dp_fg [true, false, true, false] (L' := [some (.inr (some 0)), none, some (.inl v2), none]) rfl rfl ?_
    exact hk
  · have h := dp_ic c h
    refine dp_blk okX6_name 8 (S' := (85, [some (.inr (some 0)), none, some (.inl v2), some (.inl x.2)], [.inl x.2, .inr (some 8), .inl (x.2 - (1 : Int32)), .inr (some 8)], (hM x.1))) rfl ?_
    obtain ⟨hi, h⟩ := dp_ite h
    refine dp_ial (g := (x.1.2 7)) okX6_name rfl rfl (dp_inb_in hi) ?_
    refine dp_blk okX6_name 0 (S' := (86, [some (.inr (some 0)), none, some (.inl v2), some (.inl x.2)], [.inl ((x.1.2 7) (x.2).toNatClampNeg), .inl (x.2 - (1 : Int32)), .inr (some 8)], (hM x.1))) rfl ?_
    obtain ⟨hi, h⟩ := dp_ite h
    obtain ⟨s6, hs, h⟩ := dp_bd_inv h
    have hs := Option.some.inj hs
    refine dp_iase (g := (x.1.2 7)) okX6_name rfl rfl (dp_inb_in hi) ((ahM_7 x.1 _).trans (congrArg hM hs)) ?_
    refine dp_blk okX6_name 2 (S' := (67, [some (.inr (some 0)), none, some (.inl v2), some (.inl (x.2 + (1 : Int32)))], [], (hM s6))) rfl ?_
    cases h
    exact hk
def j_X6_name (s : dp_Z) (v1 : Int32) : Option (Int32 × dp_Z) := (dp_bd (j_X6_isSet s v1) fun x1 => (if x1 = (0 : Int32) then (some ((-2 : Int32), s)) else (dp_bd (j_X6_cutBy s v1 (s.1 5)) fun x2 => (if x2 = (0 : Int32) then (some ((-3 : Int32), s)) else (dp_bd (dp_loop (jb_X6_name_30 s x2) dp_F (0 : Int32)) fun x => Sum.elim (fun x3 => (some x3)) (fun x3 => (if (s.1 11) = (6 : Int32) then (dp_bd (dp_loop (jb_X6_name_67 x2) dp_F (s, (1 : Int32))) fun x7 => (dp_bd (some (dp_sf x7 11 ((x7.1 11) - (1 : Int32)))) fun s8 => (jj_X6_name_103 s8 x2))) else (jj_X6_name_103 s x2))) x)))))
set_option maxHeartbeats 1000000 in
set_option maxRecDepth 20000 in
theorem we_X6_name {post : Option dp_V → dp_H → Prop} {h0 : dp_H} (s : dp_Z) (v1 : Int32) (o : (Int32 × dp_Z)) (h : j_X6_name s v1 = some o) (hk : post (some (.inl o.1)) (hM o.2)) : dp_W 3 mX6_name false h0 0 0 post 0 0 (0, [some (.inr (some 0)), some (.inl v1), none, none], [], (hM s)) := by
  unfold j_X6_name at h
  refine dp_blk okX6_name 2 (S' := (2, [some (.inr (some 0)), some (.inl v1), none, none], [.inl v1, .inr (some 0)], (hM s))) rfl ?_
  obtain ⟨x1, hc, h⟩ := dp_bd_inv h
  refine dp_cV okX6_name okX6_isSet (as := [.inl v1]) (r := []) rfl lk_NearLiarsModel_143 npX6_isSet (c_X6_isSet s v1 x1 hc) rfl rfl rfl rfl (Nat.le_of_ble_eq_true rfl) (Nat.le_of_ble_eq_true rfl) (Nat.le_refl _) (Nat.le_refl _) ?_
  refine dp_blk okX6_name 0 (S' := (5, [some (.inr (some 0)), some (.inl v1), none, none], [.inl x1], (hM s))) rfl ?_
  refine dp_if0 okX6_name rfl (fun (c : ¬ x1 = (0 : Int32)) => ?_) (fun (c : x1 = (0 : Int32)) => ?_)
  · have h := dp_ic c h
    refine dp_blk okX6_name 4 (S' := (17, [some (.inr (some 0)), some (.inl v1), none, none], [.inl (s.1 5), .inl v1, .inr (some 0)], (hM s))) rfl ?_
    obtain ⟨x2, hc, h⟩ := dp_bd_inv h
    refine dp_cV okX6_name okX6_cutBy (as := [.inl v1, .inl (s.1 5)]) (r := []) rfl lk_NearLiarsModel_149 npX6_cutBy (c_X6_cutBy s v1 (s.1 5) x2 hc) rfl rfl rfl rfl (Nat.le_of_ble_eq_true rfl) (Nat.le_of_ble_eq_true rfl) (Nat.le_refl _) (Nat.le_refl _) ?_
    refine dp_blk okX6_name 2 (S' := (22, [some (.inr (some 0)), some (.inl v1), some (.inl x2), none], [.inl x2], (hM s))) rfl ?_
    refine dp_if0 okX6_name rfl (fun (c : ¬ x2 = (0 : Int32)) => ?_) (fun (c : x2 = (0 : Int32)) => ?_)
    · have h := dp_ic c h
      refine dp_blk okX6_name 2 (S' := (30, [some (.inr (some 0)), some (.inl v1), some (.inl x2), some (.inl (0 : Int32))], [], (hM s))) rfl ?_
      refine dp_fg [true, false, true, true] (L' := [some (.inr (some 0)), none, some (.inl x2), some (.inl (0 : Int32))]) rfl rfl ?_
      obtain ⟨x3, hl, h⟩ := dp_bd_inv h
      refine dp_loopW (wl_X6_name_30 s x2) dp_F (0 : Int32) x3 hl ?_
      rcases x3 with x3 | x3
      · simp only [Sum.elim_inl] at h
        cases h
        exact hk
      · simp only [Sum.elim_inr] at h
        show dp_W 3 mX6_name false h0 0 0 post 0 0 (56, [some (.inr (some 0)), none, some (.inl x2), none], [], (hM s))
        refine dp_blk okX6_name 3 (S' := (62, [some (.inr (some 0)), none, some (.inl x2), none], [.inl (6 : Int32), .inl (s.1 11)], (hM s))) rfl ?_
        refine dp_if okX6_name rfl (fun (c : ¬ (s.1 11) = (6 : Int32)) => ?_) (fun (c : (s.1 11) = (6 : Int32)) => ?_)
        · have h := dp_ic c h
          refine dp_blk okX6_name 0 (S' := (103, [some (.inr (some 0)), none, some (.inl x2), none], [], (hM s))) rfl ?_
          exact wj_X6_name_103 s x2 _ h hk
        · have h := dp_ip c h
          refine dp_blk okX6_name 2 (S' := (67, [some (.inr (some 0)), none, some (.inl x2), some (.inl (1 : Int32))], [], (hM s))) rfl ?_
          obtain ⟨x7, hl, h⟩ := dp_bd_inv h
          refine dp_loopW (wl_X6_name_67 x2) dp_F (s, (1 : Int32)) x7 hl ?_
          show dp_W 3 mX6_name false h0 0 0 post 0 0 (93, [some (.inr (some 0)), none, some (.inl x2), none], [], (hM x7))
          refine dp_blk okX6_name 5 (S' := (100, [some (.inr (some 0)), none, some (.inl x2), none], [.inl ((x7.1 11) - (1 : Int32)), .inr (some 0)], (hM x7))) rfl ?_
          obtain ⟨s8, hs, h⟩ := dp_bd_inv h
          have hs := Option.some.inj hs
          refine dp_pfe okX6_name rfl (by decide) (qhM_0 x7) (Nat.le_of_ble_eq_true rfl) ((phM_11 x7 ((x7.1 11) - (1 : Int32))).trans (congrArg hM hs)) ?_
          refine dp_blk okX6_name 0 (S' := (103, [some (.inr (some 0)), none, some (.inl x2), none], [], (hM s8))) rfl ?_
          exact wj_X6_name_103 s8 x2 _ h hk
    · have h := dp_ip c h
      refine dp_blk okX6_name 1 (S' := (27, [some (.inr (some 0)), some (.inl v1), some (.inl x2), none], [.inl (-3 : Int32)], (hM s))) rfl ?_
      cases h
      exact dp_iret okX6_name rfl rfl hk
  · have h := dp_ip c h
    refine dp_blk okX6_name 1 (S' := (10, [some (.inr (some 0)), some (.inl v1), none, none], [.inl (-2 : Int32)], (hM s))) rfl ?_
    cases h
    exact dp_iret okX6_name rfl rfl hk
theorem c_X6_name (s : dp_Z) (v1 : Int32) (o : (Int32 × dp_Z)) (h : j_X6_name s v1 = some o) : dp_C 3 mX6_name false [.inr (some 0), .inl v1] (hM s) 0 0 (dp_R (some (.inl o.1)) (hM o.2)) := dp_C_of okX6_name [some (.inr (some 0)), some (.inl v1), none, none] rfl (Nat.le_of_ble_eq_true rfl) (we_X6_name s v1 o h ⟨rfl, rfl⟩)
def j_X6_named (s : dp_Z) (v1 : Int32) : Option Int32 := (dp_bd (j_X6_within v1 (0 : Int32) ((s.1 11) - (1 : Int32))) fun x1 => (if x1 = (0 : Int32) then (some (-2 : Int32)) else (if dp_inb v1 6 = true then (some ((s.2 7) (v1).toNatClampNeg)) else none)))
set_option maxHeartbeats 1000000 in
set_option maxRecDepth 20000 in
theorem we_X6_named {post : Option dp_V → dp_H → Prop} {h0 : dp_H} (s : dp_Z) (v1 : Int32) (o : Int32) (h : j_X6_named s v1 = some o) (hk : post (some (.inl o)) (hM s)) : dp_W 1 mX6_named false h0 0 0 post 0 0 (0, [some (.inr (some 0)), some (.inl v1)], [], (hM s)) := by
  unfold j_X6_named at h
  refine dp_blk okX6_named 6 (S' := (8, [some (.inr (some 0)), some (.inl v1)], [.inl ((s.1 11) - (1 : Int32)), .inl (0 : Int32), .inl v1], (hM s))) rfl ?_
  obtain ⟨x1, hc, h⟩ := dp_bd_inv h
  refine dp_cS okX6_named okX6_within (as := [.inl v1, .inl (0 : Int32), .inl ((s.1 11) - (1 : Int32))]) (r := []) rfl lk_NearLiarsModel_63 npX6_within (c_X6_within (hM s) v1 (0 : Int32) ((s.1 11) - (1 : Int32)) x1 hc) rfl (Nat.le_of_ble_eq_true rfl) (Nat.le_of_ble_eq_true rfl) (Nat.le_refl _) (Nat.le_refl _) ?_
  refine dp_blk okX6_named 0 (S' := (11, [some (.inr (some 0)), some (.inl v1)], [.inl x1], (hM s))) rfl ?_
  refine dp_if0 okX6_named rfl (fun (c : x1 = (0 : Int32)) => ?_) (fun (c : ¬ x1 = (0 : Int32)) => ?_)
  · have h := dp_ip c h
    refine dp_blk okX6_named 1 (S' := (25, [some (.inr (some 0)), some (.inl v1)], [.inl (-2 : Int32)], (hM s))) rfl ?_
    cases h
    exact dp_iret okX6_named rfl rfl hk
  · have h := dp_ic c h
    refine dp_blk okX6_named 3 (S' := (19, [some (.inr (some 0)), some (.inl v1)], [.inl v1, .inr (some 8)], (hM s))) rfl ?_
    obtain ⟨hi, h⟩ := dp_ite h
    refine dp_ial (g := (s.2 7)) okX6_named rfl rfl (dp_inb_in hi) ?_
    refine dp_blk okX6_named 1 (S' := (25, [some (.inr (some 0)), some (.inl v1)], [.inl ((s.2 7) (v1).toNatClampNeg)], (hM s))) rfl ?_
    cases h
    exact dp_iret okX6_named rfl rfl hk
theorem c_X6_named (s : dp_Z) (v1 : Int32) (o : Int32) (h : j_X6_named s v1 = some o) : dp_C 1 mX6_named false [.inr (some 0), .inl v1] (hM s) 0 0 (dp_R (some (.inl o)) (hM s)) := dp_C_of okX6_named [some (.inr (some 0)), some (.inl v1)] rfl (Nat.le_of_ble_eq_true rfl) (we_X6_named s v1 o h ⟨rfl, rfl⟩)
def jb_X6_isOnWay_2 (s : dp_Z) (v1 : Int32) (x : Int32) : Option (Int32 ⊕ (Int32 ⊕ Unit)) := (if (s.1 12) ≤ x then (some (.inr (.inr ()))) else (if dp_inb x 12 = true then (if ((s.2 8) (x).toNatClampNeg) = v1 then (some (.inr (.inl (1 : Int32)))) else (some (.inl (x + (1 : Int32))))) else none))
set_option maxHeartbeats 1000000 in
set_option maxRecDepth 20000 in
theorem wl_X6_isOnWay_2 {post : Option dp_V → dp_H → Prop} {h0 : dp_H} (s : dp_Z) (v1 : Int32) (x : Int32) (o : (Int32 ⊕ (Int32 ⊕ Unit))) (h : jb_X6_isOnWay_2 s v1 x = some o) (hk : dp_LK (fun x : Int32 => dp_W 0 mX6_isOnWay false h0 0 0 post 0 0 (2, [some (.inr (some 0)), some (.inl v1), some (.inl x)], [], (hM s))) (dp_LK (fun o : Int32 => post (some (.inl o)) (hM s)) (fun x : Unit => dp_W 0 mX6_isOnWay false h0 0 0 post 0 0 (28, [none, none, none], [], (hM s)))) o) : dp_W 0 mX6_isOnWay false h0 0 0 post 0 0 (2, [some (.inr (some 0)), some (.inl v1), some (.inl x)], [], (hM s)) := by
  unfold jb_X6_isOnWay_2 at h
  refine dp_blk okX6_isOnWay 3 (S' := (7, [some (.inr (some 0)), some (.inl v1), some (.inl x)], [.inl (s.1 12), .inl x], (hM s))) rfl ?_
  refine dp_if okX6_isOnWay rfl (fun (c : (s.1 12) ≤ x) => ?_) (fun (c : ¬ (s.1 12) ≤ x) => ?_)
  · have h := dp_ip c h
    refine dp_blk okX6_isOnWay 0 (S' := (28, [some (.inr (some 0)), some (.inl v1), some (.inl x)], [], (hM s))) rfl ?_
    cases h
    refine dp_fg [false, false, false] (L' := [none, none, none]) rfl rfl ?_
    exact hk
  · have h := dp_ic c h
    refine dp_blk okX6_isOnWay 3 (S' := (15, [some (.inr (some 0)), some (.inl v1), some (.inl x)], [.inl x, .inr (some 9)], (hM s))) rfl ?_
    obtain ⟨hi, h⟩ := dp_ite h
    refine dp_ial (g := (s.2 8)) okX6_isOnWay rfl rfl (dp_inb_in hi) ?_
    refine dp_blk okX6_isOnWay 1 (S' := (17, [some (.inr (some 0)), some (.inl v1), some (.inl x)], [.inl v1, .inl ((s.2 8) (x).toNatClampNeg)], (hM s))) rfl ?_
    refine dp_if okX6_isOnWay rfl (fun (c : ¬ ((s.2 8) (x).toNatClampNeg) = v1) => ?_) (fun (c : ((s.2 8) (x).toNatClampNeg) = v1) => ?_)
    · have h := dp_ic c h
      refine dp_blk okX6_isOnWay 2 (S' := (2, [some (.inr (some 0)), some (.inl v1), some (.inl (x + (1 : Int32)))], [], (hM s))) rfl ?_
      cases h
      exact hk
    · have h := dp_ip c h
      refine dp_blk okX6_isOnWay 1 (S' := (21, [some (.inr (some 0)), some (.inl v1), some (.inl x)], [.inl (1 : Int32)], (hM s))) rfl ?_
      cases h
      exact dp_zret okX6_isOnWay rfl rfl (by decide) hk
def j_X6_isOnWay (s : dp_Z) (v1 : Int32) : Option Int32 := (dp_bd (dp_loop (jb_X6_isOnWay_2 s v1) dp_F (0 : Int32)) fun x => Sum.elim (fun x1 => (some x1)) (fun x1 => (some (0 : Int32))) x)
set_option maxHeartbeats 1000000 in
set_option maxRecDepth 20000 in
theorem we_X6_isOnWay {post : Option dp_V → dp_H → Prop} {h0 : dp_H} (s : dp_Z) (v1 : Int32) (o : Int32) (h : j_X6_isOnWay s v1 = some o) (hk : post (some (.inl o)) (hM s)) : dp_W 0 mX6_isOnWay false h0 0 0 post 0 0 (0, [some (.inr (some 0)), some (.inl v1), none], [], (hM s)) := by
  unfold j_X6_isOnWay at h
  refine dp_blk okX6_isOnWay 2 (S' := (2, [some (.inr (some 0)), some (.inl v1), some (.inl (0 : Int32))], [], (hM s))) rfl ?_
  obtain ⟨x1, hl, h⟩ := dp_bd_inv h
  refine dp_loopW (wl_X6_isOnWay_2 s v1) dp_F (0 : Int32) x1 hl ?_
  rcases x1 with x1 | x1
  · simp only [Sum.elim_inl] at h
    cases h
    exact hk
  · simp only [Sum.elim_inr] at h
    show dp_W 0 mX6_isOnWay false h0 0 0 post 0 0 (28, [none, none, none], [], (hM s))
    refine dp_blk okX6_isOnWay 1 (S' := (29, [none, none, none], [.inl (0 : Int32)], (hM s))) rfl ?_
    cases h
    exact dp_zret okX6_isOnWay rfl rfl (by decide) hk
theorem c_X6_isOnWay (s : dp_Z) (v1 : Int32) (o : Int32) (h : j_X6_isOnWay s v1 = some o) : dp_C 0 mX6_isOnWay false [.inr (some 0), .inl v1] (hM s) 0 0 (dp_R (some (.inl o)) (hM s)) := dp_C_of okX6_isOnWay [some (.inr (some 0)), some (.inl v1), none] rfl (Nat.le_of_ble_eq_true rfl) (we_X6_isOnWay s v1 o h ⟨rfl, rfl⟩)
def jj_X6_walk_69 (s : dp_Z) (v1 t0 : Int32) : Option (Int32 × dp_Z) := (if t0 = (0 : Int32) then (some ((-3 : Int32), s)) else (if dp_inb (s.1 12) 12 = true then (dp_bd (some (dp_sr s 8 (upd (s.2 8) ((s.1 12)).toNatClampNeg v1))) fun s3 => (dp_bd (some (dp_sf s3 12 ((s3.1 12) + (1 : Int32)))) fun s4 => (some ((s4.1 12), s4)))) else none))
set_option maxHeartbeats 1000000 in
set_option maxRecDepth 20000 in
theorem wj_X6_walk_69 {post : Option dp_V → dp_H → Prop} {h0 : dp_H} (s : dp_Z) (v1 t0 : Int32) (o : (Int32 × dp_Z)) (h : jj_X6_walk_69 s v1 t0 = some o) (hk : post (some (.inl o.1)) (hM o.2)) : dp_W 2 mX6_walk false h0 0 0 post 0 0 (69, [some (.inr (some 0)), some (.inl v1), none], [.inl t0], (hM s)) := by
  unfold jj_X6_walk_69 at h
  refine dp_blk okX6_walk 2 (S' := (71, [some (.inr (some 0)), some (.inl v1), some (.inl t0)], [.inl t0], (hM s))) rfl ?_
  refine dp_if0 okX6_walk rfl (fun (c : ¬ t0 = (0 : Int32)) => ?_) (fun (c : t0 = (0 : Int32)) => ?_)
  · have h := dp_ic c h
    refine dp_blk okX6_walk 5 (S' := (86, [some (.inr (some 0)), some (.inl v1), some (.inl t0)], [.inl v1, .inl (s.1 12), .inr (some 9)], (hM s))) rfl ?_
    obtain ⟨hi, h⟩ := dp_ite h
    obtain ⟨s3, hs, h⟩ := dp_bd_inv h
    have hs := Option.some.inj hs
    refine dp_iase (g := (s.2 8)) okX6_walk rfl rfl (dp_inb_in hi) ((ahM_8 s _).trans (congrArg hM hs)) ?_
    refine dp_blk okX6_walk 5 (S' := (94, [some (.inr (some 0)), some (.inl v1), some (.inl t0)], [.inl ((s3.1 12) + (1 : Int32)), .inr (some 0)], (hM s3))) rfl ?_
    obtain ⟨s4, hs, h⟩ := dp_bd_inv h
    have hs := Option.some.inj hs
    refine dp_pfe okX6_walk rfl (by decide) (qhM_0 s3) (Nat.le_of_ble_eq_true rfl) ((phM_12 s3 ((s3.1 12) + (1 : Int32))).trans (congrArg hM hs)) ?_
    refine dp_blk okX6_walk 2 (S' := (101, [some (.inr (some 0)), some (.inl v1), some (.inl t0)], [.inl (s4.1 12)], (hM s4))) rfl ?_
    cases h
    exact dp_iret okX6_walk rfl rfl hk
  · have h := dp_ip c h
    refine dp_blk okX6_walk 1 (S' := (76, [some (.inr (some 0)), some (.inl v1), some (.inl t0)], [.inl (-3 : Int32)], (hM s))) rfl ?_
    cases h
    exact dp_iret okX6_walk rfl rfl hk
def jj_X6_walk_68 (s : dp_Z) (v1 : Int32) : Option (Int32 × dp_Z) := (jj_X6_walk_69 s v1 (0 : Int32))
set_option maxHeartbeats 1000000 in
set_option maxRecDepth 20000 in
theorem wj_X6_walk_68 {post : Option dp_V → dp_H → Prop} {h0 : dp_H} (s : dp_Z) (v1 : Int32) (o : (Int32 × dp_Z)) (h : jj_X6_walk_68 s v1 = some o) (hk : post (some (.inl o.1)) (hM o.2)) : dp_W 2 mX6_walk false h0 0 0 post 0 0 (68, [some (.inr (some 0)), some (.inl v1), none], [], (hM s)) := by
  unfold jj_X6_walk_68 at h
  refine dp_blk okX6_walk 1 (S' := (69, [some (.inr (some 0)), some (.inl v1), none], [.inl (0 : Int32)], (hM s))) rfl ?_
  exact wj_X6_walk_69 s v1 (0 : Int32) _ h hk
def j_X6_walk (s : dp_Z) (v1 : Int32) : Option (Int32 × dp_Z) := (dp_bd (j_X6_isNode s v1) fun x1 => (if x1 = (0 : Int32) then (some ((-1 : Int32), s)) else (if (s.1 12) = (0 : Int32) then (if v1 = (s.1 3) then (jj_X6_walk_69 s v1 (1 : Int32)) else (jj_X6_walk_69 s v1 (0 : Int32))) else (if dp_inb ((s.1 12) - (1 : Int32)) 12 = true then (if dp_inb ((s.2 8) (((s.1 12) - (1 : Int32))).toNatClampNeg) 12 = true then (dp_bd (j_X6_has ((s.2 0) (((s.2 8) (((s.1 12) - (1 : Int32))).toNatClampNeg)).toNatClampNeg) v1) fun x2 => (if x2 = (0 : Int32) then (jj_X6_walk_68 s v1) else (dp_bd (j_X6_isOnWay s v1) fun x5 => (if x5 = (0 : Int32) then (jj_X6_walk_69 s v1 (1 : Int32)) else (jj_X6_walk_68 s v1))))) else none) else none))))
set_option maxHeartbeats 1000000 in
set_option maxRecDepth 20000 in
theorem we_X6_walk {post : Option dp_V → dp_H → Prop} {h0 : dp_H} (s : dp_Z) (v1 : Int32) (o : (Int32 × dp_Z)) (h : j_X6_walk s v1 = some o) (hk : post (some (.inl o.1)) (hM o.2)) : dp_W 2 mX6_walk false h0 0 0 post 0 0 (0, [some (.inr (some 0)), some (.inl v1), none], [], (hM s)) := by
  unfold j_X6_walk at h
  refine dp_blk okX6_walk 2 (S' := (2, [some (.inr (some 0)), some (.inl v1), none], [.inl v1, .inr (some 0)], (hM s))) rfl ?_
  obtain ⟨x1, hc, h⟩ := dp_bd_inv h
  refine dp_cV okX6_walk okX6_isNode (as := [.inl v1]) (r := []) rfl lk_NearLiarsModel_86 npX6_isNode (c_X6_isNode s v1 x1 hc) rfl rfl rfl rfl (Nat.le_of_ble_eq_true rfl) (Nat.le_of_ble_eq_true rfl) (Nat.le_refl _) (Nat.le_refl _) ?_
  refine dp_blk okX6_walk 0 (S' := (5, [some (.inr (some 0)), some (.inl v1), none], [.inl x1], (hM s))) rfl ?_
  refine dp_if0 okX6_walk rfl (fun (c : ¬ x1 = (0 : Int32)) => ?_) (fun (c : x1 = (0 : Int32)) => ?_)
  · have h := dp_ic c h
    refine dp_blk okX6_walk 2 (S' := (14, [some (.inr (some 0)), some (.inl v1), none], [.inl (s.1 12)], (hM s))) rfl ?_
    refine dp_if0 okX6_walk rfl (fun (c : ¬ (s.1 12) = (0 : Int32)) => ?_) (fun (c : (s.1 12) = (0 : Int32)) => ?_)
    · have h := dp_ic c h
      refine dp_blk okX6_walk 8 (S' := (47, [some (.inr (some 0)), some (.inl v1), none], [.inl ((s.1 12) - (1 : Int32)), .inr (some 9), .inr (some 1)], (hM s))) rfl ?_
      obtain ⟨hi, h⟩ := dp_ite h
      refine dp_ial (g := (s.2 8)) okX6_walk rfl rfl (dp_inb_in hi) ?_
      refine dp_blk okX6_walk 0 (S' := (48, [some (.inr (some 0)), some (.inl v1), none], [.inl ((s.2 8) (((s.1 12) - (1 : Int32))).toNatClampNeg), .inr (some 1)], (hM s))) rfl ?_
      obtain ⟨hi, h⟩ := dp_ite h
      refine dp_ial (g := (s.2 0)) okX6_walk rfl rfl (dp_inb_in hi) ?_
      refine dp_blk okX6_walk 1 (S' := (50, [some (.inr (some 0)), some (.inl v1), none], [.inl v1, .inl ((s.2 0) (((s.2 8) (((s.1 12) - (1 : Int32))).toNatClampNeg)).toNatClampNeg)], (hM s))) rfl ?_
      obtain ⟨x2, hc, h⟩ := dp_bd_inv h
      refine dp_cS okX6_walk okX6_has (as := [.inl ((s.2 0) (((s.2 8) (((s.1 12) - (1 : Int32))).toNatClampNeg)).toNatClampNeg), .inl v1]) (r := []) rfl lk_NearLiarsModel_93 npX6_has (c_X6_has (hM s) ((s.2 0) (((s.2 8) (((s.1 12) - (1 : Int32))).toNatClampNeg)).toNatClampNeg) v1 x2 hc) rfl (Nat.le_of_ble_eq_true rfl) (Nat.le_of_ble_eq_true rfl) (Nat.le_refl _) (Nat.le_refl _) ?_
      refine dp_blk okX6_walk 0 (S' := (53, [some (.inr (some 0)), some (.inl v1), none], [.inl x2], (hM s))) rfl ?_
      refine dp_if0 okX6_walk rfl (fun (c : x2 = (0 : Int32)) => ?_) (fun (c : ¬ x2 = (0 : Int32)) => ?_)
      · have h := dp_ip c h
        refine dp_blk okX6_walk 0 (S' := (68, [some (.inr (some 0)), some (.inl v1), none], [], (hM s))) rfl ?_
        exact wj_X6_walk_68 s v1 _ h hk
      · have h := dp_ic c h
        refine dp_blk okX6_walk 2 (S' := (58, [some (.inr (some 0)), some (.inl v1), none], [.inl v1, .inr (some 0)], (hM s))) rfl ?_
        obtain ⟨x5, hc, h⟩ := dp_bd_inv h
        refine dp_cV okX6_walk okX6_isOnWay (as := [.inl v1]) (r := []) rfl lk_NearLiarsModel_165 npX6_isOnWay (c_X6_isOnWay s v1 x5 hc) rfl rfl rfl rfl (Nat.le_of_ble_eq_true rfl) (Nat.le_of_ble_eq_true rfl) (Nat.le_refl _) (Nat.le_refl _) ?_
        refine dp_blk okX6_walk 0 (S' := (61, [some (.inr (some 0)), some (.inl v1), none], [.inl x5], (hM s))) rfl ?_
        refine dp_if0 okX6_walk rfl (fun (c : ¬ x5 = (0 : Int32)) => ?_) (fun (c : x5 = (0 : Int32)) => ?_)
        · have h := dp_ic c h
          refine dp_blk okX6_walk 0 (S' := (68, [some (.inr (some 0)), some (.inl v1), none], [], (hM s))) rfl ?_
          exact wj_X6_walk_68 s v1 _ h hk
        · have h := dp_ip c h
          refine dp_blk okX6_walk 2 (S' := (69, [some (.inr (some 0)), some (.inl v1), none], [.inl (1 : Int32)], (hM s))) rfl ?_
          exact wj_X6_walk_69 s v1 (1 : Int32) _ h hk
    · have h := dp_ip c h
      refine dp_blk okX6_walk 3 (S' := (22, [some (.inr (some 0)), some (.inl v1), none], [.inl (s.1 3), .inl v1], (hM s))) rfl ?_
      refine dp_if okX6_walk rfl (fun (c : ¬ v1 = (s.1 3)) => ?_) (fun (c : v1 = (s.1 3)) => ?_)
      · have h := dp_ic c h
        refine dp_blk okX6_walk 2 (S' := (69, [some (.inr (some 0)), some (.inl v1), none], [.inl (0 : Int32)], (hM s))) rfl ?_
        exact wj_X6_walk_69 s v1 (0 : Int32) _ h hk
      · have h := dp_ip c h
        refine dp_blk okX6_walk 2 (S' := (69, [some (.inr (some 0)), some (.inl v1), none], [.inl (1 : Int32)], (hM s))) rfl ?_
        exact wj_X6_walk_69 s v1 (1 : Int32) _ h hk
  · have h := dp_ip c h
    refine dp_blk okX6_walk 1 (S' := (9, [some (.inr (some 0)), some (.inl v1), none], [.inl (-1 : Int32)], (hM s))) rfl ?_
    cases h
    exact dp_iret okX6_walk rfl rfl hk
theorem c_X6_walk (s : dp_Z) (v1 : Int32) (o : (Int32 × dp_Z)) (h : j_X6_walk s v1 = some o) : dp_C 2 mX6_walk false [.inr (some 0), .inl v1] (hM s) 0 0 (dp_R (some (.inl o.1)) (hM o.2)) := dp_C_of okX6_walk [some (.inr (some 0)), some (.inl v1), none] rfl (Nat.le_of_ble_eq_true rfl) (we_X6_walk s v1 o h ⟨rfl, rfl⟩)
def jj_X6_isClaimed_82 (s : dp_Z) (v1 v2 v4 t0 : Int32) : Option ((Int32 × Int32) ⊕ Int32) := (some (.inl (t0, (v4 + (1 : Int32)))))
set_option maxHeartbeats 1000000 in
set_option maxRecDepth 20000 in
theorem wj_X6_isClaimed_82 {post : Option dp_V → dp_H → Prop} {h0 : dp_H} (s : dp_Z) (v1 v2 v4 t0 : Int32) (o : ((Int32 × Int32) ⊕ Int32)) (h : jj_X6_isClaimed_82 s v1 v2 v4 t0 = some o) (hk : dp_LK (fun x : (Int32 × Int32) => dp_W 0 mX6_isClaimed false h0 0 0 post 0 0 (42, [some (.inr (some 0)), some (.inl v1), some (.inl v2), some (.inl x.1), some (.inl x.2)], [], (hM s))) (fun x : Int32 => dp_W 0 mX6_isClaimed false h0 0 0 post 0 0 (89, [some (.inr (some 0)), some (.inl v1), some (.inl v2), some (.inl x), none], [], (hM s))) o) : dp_W 0 mX6_isClaimed false h0 0 0 post 0 0 (82, [some (.inr (some 0)), some (.inl v1), some (.inl v2), none, some (.inl v4)], [.inl t0], (hM s)) := by
  unfold jj_X6_isClaimed_82 at h
  refine dp_blk okX6_isClaimed 3 (S' := (42, [some (.inr (some 0)), some (.inl v1), some (.inl v2), some (.inl t0), some (.inl (v4 + (1 : Int32)))], [], (hM s))) rfl ?_
  cases h
  exact hk
def jb_X6_isClaimed_42 (s : dp_Z) (v1 v2 : Int32) (x : (Int32 × Int32)) : Option ((Int32 × Int32) ⊕ Int32) := (if (s.1 12) ≤ x.2 then (some (.inr x.1)) else (if x.1 = (0 : Int32) then (some (.inr x.1)) else (if dp_inb (((12 : Int32) * v2) + x.2) 96 = true then (if dp_inb x.2 12 = true then (if ((s.2 11) ((((12 : Int32) * v2) + x.2)).toNatClampNeg) = ((s.2 8) (x.2).toNatClampNeg) then (jj_X6_isClaimed_82 s v1 v2 x.2 (1 : Int32)) else (jj_X6_isClaimed_82 s v1 v2 x.2 (0 : Int32))) else none) else none)))
set_option maxHeartbeats 1000000 in
set_option maxRecDepth 20000 in
theorem wl_X6_isClaimed_42 {post : Option dp_V → dp_H → Prop} {h0 : dp_H} (s : dp_Z) (v1 v2 : Int32) (x : (Int32 × Int32)) (o : ((Int32 × Int32) ⊕ Int32)) (h : jb_X6_isClaimed_42 s v1 v2 x = some o) (hk : dp_LK (fun x : (Int32 × Int32) => dp_W 0 mX6_isClaimed false h0 0 0 post 0 0 (42, [some (.inr (some 0)), some (.inl v1), some (.inl v2), some (.inl x.1), some (.inl x.2)], [], (hM s))) (fun x : Int32 => dp_W 0 mX6_isClaimed false h0 0 0 post 0 0 (89, [some (.inr (some 0)), some (.inl v1), some (.inl v2), some (.inl x), none], [], (hM s))) o) : dp_W 0 mX6_isClaimed false h0 0 0 post 0 0 (42, [some (.inr (some 0)), some (.inl v1), some (.inl v2), some (.inl x.1), some (.inl x.2)], [], (hM s)) := by
  unfold jb_X6_isClaimed_42 at h
  refine dp_blk okX6_isClaimed 3 (S' := (48, [some (.inr (some 0)), some (.inl v1), some (.inl v2), some (.inl x.1), some (.inl x.2)], [.inl (s.1 12), .inl x.2], (hM s))) rfl ?_
  refine dp_if okX6_isClaimed rfl (fun (c : (s.1 12) ≤ x.2) => ?_) (fun (c : ¬ (s.1 12) ≤ x.2) => ?_)
  · have h := dp_ip c h
    refine dp_blk okX6_isClaimed 0 (S' := (89, [some (.inr (some 0)), some (.inl v1), some (.inl v2), some (.inl x.1), some (.inl x.2)], [], (hM s))) rfl ?_
    cases h
    refine dp_fg [true, true, true, true, false] (L' := [some (.inr (some 0)), some (.inl v1), some (.inl v2), some (.inl x.1), none]) rfl rfl ?_
    exact hk
  · have h := dp_ic c h
    refine dp_blk okX6_isClaimed 1 (S' := (52, [some (.inr (some 0)), some (.inl v1), some (.inl v2), some (.inl x.1), some (.inl x.2)], [.inl x.1], (hM s))) rfl ?_
    refine dp_if0 okX6_isClaimed rfl (fun (c : x.1 = (0 : Int32)) => ?_) (fun (c : ¬ x.1 = (0 : Int32)) => ?_)
    · have h := dp_ip c h
      refine dp_blk okX6_isClaimed 0 (S' := (89, [some (.inr (some 0)), some (.inl v1), some (.inl v2), some (.inl x.1), some (.inl x.2)], [], (hM s))) rfl ?_
      cases h
      refine dp_fg [true, true, true, true, false] (L' := [some (.inr (some 0)), some (.inl v1), some (.inl v2), some (.inl x.1), none]) rfl rfl ?_
      exact hk
    · have h := dp_ic c h
      refine dp_blk okX6_isClaimed 7 (S' := (66, [some (.inr (some 0)), some (.inl v1), some (.inl v2), some (.inl x.1), some (.inl x.2)], [.inl (((12 : Int32) * v2) + x.2), .inr (some 12)], (hM s))) rfl ?_
      obtain ⟨hi, h⟩ := dp_ite h
      refine dp_ial (g := (s.2 11)) okX6_isClaimed rfl rfl (dp_inb_in hi) ?_
      refine dp_blk okX6_isClaimed 3 (S' := (73, [some (.inr (some 0)), some (.inl v1), some (.inl v2), some (.inl x.1), some (.inl x.2)], [.inl x.2, .inr (some 9), .inl ((s.2 11) ((((12 : Int32) * v2) + x.2)).toNatClampNeg)], (hM s))) rfl ?_
      obtain ⟨hi, h⟩ := dp_ite h
      refine dp_ial (g := (s.2 8)) okX6_isClaimed rfl rfl (dp_inb_in hi) ?_
      refine dp_blk okX6_isClaimed 0 (S' := (74, [some (.inr (some 0)), some (.inl v1), some (.inl v2), some (.inl x.1), some (.inl x.2)], [.inl ((s.2 8) (x.2).toNatClampNeg), .inl ((s.2 11) ((((12 : Int32) * v2) + x.2)).toNatClampNeg)], (hM s))) rfl ?_
      refine dp_if okX6_isClaimed rfl (fun (c : ¬ ((s.2 11) ((((12 : Int32) * v2) + x.2)).toNatClampNeg) = ((s.2 8) (x.2).toNatClampNeg)) => ?_) (fun (c : ((s.2 11) ((((12 : Int32) * v2) + x.2)).toNatClampNeg) = ((s.2 8) (x.2).toNatClampNeg)) => ?_)
      · have h := dp_ic c h
        refine dp_blk okX6_isClaimed 1 (S' := (82, [some (.inr (some 0)), some (.inl v1), some (.inl v2), some (.inl x.1), some (.inl x.2)], [.inl (0 : Int32)], (hM s))) rfl ?_
        refine dp_fg [true, true, true, false, true] (L' := [some (.inr (some 0)), some (.inl v1), some (.inl v2), none, some (.inl x.2)]) rfl rfl ?_
        exact wj_X6_isClaimed_82 s v1 v2 x.2 (0 : Int32) _ h hk
      · have h := dp_ip c h
        refine dp_blk okX6_isClaimed 2 (S' := (82, [some (.inr (some 0)), some (.inl v1), some (.inl v2), some (.inl x.1), some (.inl x.2)], [.inl (1 : Int32)], (hM s))) rfl ?_
        refine dp_fg [true, true, true, false, true] (L' := [some (.inr (some 0)), some (.inl v1), some (.inl v2), none, some (.inl x.2)]) rfl rfl ?_
        exact wj_X6_isClaimed_82 s v1 v2 x.2 (1 : Int32) _ h hk
def jj_X6_isClaimed_38 (s : dp_Z) (v1 v2 t0 : Int32) : Option (Int32 ⊕ (Int32 ⊕ Unit)) := (dp_bd (dp_loop (jb_X6_isClaimed_42 s v1 v2) dp_F (t0, (0 : Int32))) fun x1 => (if x1 = (0 : Int32) then (some (.inl (v2 + (1 : Int32)))) else (some (.inr (.inl (1 : Int32))))))
set_option maxHeartbeats 1000000 in
set_option maxRecDepth 20000 in
theorem wj_X6_isClaimed_38 {post : Option dp_V → dp_H → Prop} {h0 : dp_H} (s : dp_Z) (v1 v2 t0 : Int32) (o : (Int32 ⊕ (Int32 ⊕ Unit))) (h : jj_X6_isClaimed_38 s v1 v2 t0 = some o) (hk : dp_LK (fun x : Int32 => dp_W 0 mX6_isClaimed false h0 0 0 post 0 0 (2, [some (.inr (some 0)), some (.inl v1), some (.inl x), none, none], [], (hM s))) (dp_LK (fun o : Int32 => post (some (.inl o)) (hM s)) (fun x : Unit => dp_W 0 mX6_isClaimed false h0 0 0 post 0 0 (101, [none, none, none, none, none], [], (hM s)))) o) : dp_W 0 mX6_isClaimed false h0 0 0 post 0 0 (38, [some (.inr (some 0)), some (.inl v1), some (.inl v2), none, none], [.inl t0], (hM s)) := by
  unfold jj_X6_isClaimed_38 at h
  refine dp_blk okX6_isClaimed 3 (S' := (42, [some (.inr (some 0)), some (.inl v1), some (.inl v2), some (.inl t0), some (.inl (0 : Int32))], [], (hM s))) rfl ?_
  obtain ⟨x1, hl, h⟩ := dp_bd_inv h
  refine dp_loopW (wl_X6_isClaimed_42 s v1 v2) dp_F (t0, (0 : Int32)) x1 hl ?_
  show dp_W 0 mX6_isClaimed false h0 0 0 post 0 0 (89, [some (.inr (some 0)), some (.inl v1), some (.inl v2), some (.inl x1), none], [], (hM s))
  refine dp_blk okX6_isClaimed 1 (S' := (90, [some (.inr (some 0)), some (.inl v1), some (.inl v2), some (.inl x1), none], [.inl x1], (hM s))) rfl ?_
  refine dp_if0 okX6_isClaimed rfl (fun (c : x1 = (0 : Int32)) => ?_) (fun (c : ¬ x1 = (0 : Int32)) => ?_)
  · have h := dp_ip c h
    refine dp_blk okX6_isClaimed 2 (S' := (2, [some (.inr (some 0)), some (.inl v1), some (.inl (v2 + (1 : Int32))), some (.inl x1), none], [], (hM s))) rfl ?_
    cases h
    refine dp_fg [true, true, true, false, false] (L' := [some (.inr (some 0)), some (.inl v1), some (.inl (v2 + (1 : Int32))), none, none]) rfl rfl ?_
    exact hk
  · have h := dp_ic c h
    refine dp_blk okX6_isClaimed 1 (S' := (94, [some (.inr (some 0)), some (.inl v1), some (.inl v2), some (.inl x1), none], [.inl (1 : Int32)], (hM s))) rfl ?_
    cases h
    exact dp_zret okX6_isClaimed rfl rfl (by decide) hk
def jj_X6_isClaimed_37 (s : dp_Z) (v1 v2 : Int32) : Option (Int32 ⊕ (Int32 ⊕ Unit)) := (jj_X6_isClaimed_38 s v1 v2 (0 : Int32))
set_option maxHeartbeats 1000000 in
set_option maxRecDepth 20000 in
theorem wj_X6_isClaimed_37 {post : Option dp_V → dp_H → Prop} {h0 : dp_H} (s : dp_Z) (v1 v2 : Int32) (o : (Int32 ⊕ (Int32 ⊕ Unit))) (h : jj_X6_isClaimed_37 s v1 v2 = some o) (hk : dp_LK (fun x : Int32 => dp_W 0 mX6_isClaimed false h0 0 0 post 0 0 (2, [some (.inr (some 0)), some (.inl v1), some (.inl x), none, none], [], (hM s))) (dp_LK (fun o : Int32 => post (some (.inl o)) (hM s)) (fun x : Unit => dp_W 0 mX6_isClaimed false h0 0 0 post 0 0 (101, [none, none, none, none, none], [], (hM s)))) o) : dp_W 0 mX6_isClaimed false h0 0 0 post 0 0 (37, [some (.inr (some 0)), some (.inl v1), some (.inl v2), none, none], [], (hM s)) := by
  unfold jj_X6_isClaimed_37 at h
  refine dp_blk okX6_isClaimed 1 (S' := (38, [some (.inr (some 0)), some (.inl v1), some (.inl v2), none, none], [.inl (0 : Int32)], (hM s))) rfl ?_
  exact wj_X6_isClaimed_38 s v1 v2 (0 : Int32) _ h hk
def jb_X6_isClaimed_2 (s : dp_Z) (v1 : Int32) (x : Int32) : Option (Int32 ⊕ (Int32 ⊕ Unit)) := (if (s.1 13) ≤ x then (some (.inr (.inr ()))) else (if dp_inb x 8 = true then (if ((s.2 9) (x).toNatClampNeg) = v1 then (if dp_inb x 8 = true then (if ((s.2 10) (x).toNatClampNeg) = (s.1 12) then (jj_X6_isClaimed_38 s v1 x (1 : Int32)) else (jj_X6_isClaimed_37 s v1 x)) else none) else (jj_X6_isClaimed_37 s v1 x)) else none))
set_option maxHeartbeats 1000000 in
set_option maxRecDepth 20000 in
theorem wl_X6_isClaimed_2 {post : Option dp_V → dp_H → Prop} {h0 : dp_H} (s : dp_Z) (v1 : Int32) (x : Int32) (o : (Int32 ⊕ (Int32 ⊕ Unit))) (h : jb_X6_isClaimed_2 s v1 x = some o) (hk : dp_LK (fun x : Int32 => dp_W 0 mX6_isClaimed false h0 0 0 post 0 0 (2, [some (.inr (some 0)), some (.inl v1), some (.inl x), none, none], [], (hM s))) (dp_LK (fun o : Int32 => post (some (.inl o)) (hM s)) (fun x : Unit => dp_W 0 mX6_isClaimed false h0 0 0 post 0 0 (101, [none, none, none, none, none], [], (hM s)))) o) : dp_W 0 mX6_isClaimed false h0 0 0 post 0 0 (2, [some (.inr (some 0)), some (.inl v1), some (.inl x), none, none], [], (hM s)) := by
  unfold jb_X6_isClaimed_2 at h
  refine dp_blk okX6_isClaimed 3 (S' := (7, [some (.inr (some 0)), some (.inl v1), some (.inl x), none, none], [.inl (s.1 13), .inl x], (hM s))) rfl ?_
  refine dp_if okX6_isClaimed rfl (fun (c : (s.1 13) ≤ x) => ?_) (fun (c : ¬ (s.1 13) ≤ x) => ?_)
  · have h := dp_ip c h
    refine dp_blk okX6_isClaimed 0 (S' := (101, [some (.inr (some 0)), some (.inl v1), some (.inl x), none, none], [], (hM s))) rfl ?_
    cases h
    refine dp_fg [false, false, false, false, false] (L' := [none, none, none, none, none]) rfl rfl ?_
    exact hk
  · have h := dp_ic c h
    refine dp_blk okX6_isClaimed 3 (S' := (15, [some (.inr (some 0)), some (.inl v1), some (.inl x), none, none], [.inl x, .inr (some 10)], (hM s))) rfl ?_
    obtain ⟨hi, h⟩ := dp_ite h
    refine dp_ial (g := (s.2 9)) okX6_isClaimed rfl rfl (dp_inb_in hi) ?_
    refine dp_blk okX6_isClaimed 1 (S' := (17, [some (.inr (some 0)), some (.inl v1), some (.inl x), none, none], [.inl v1, .inl ((s.2 9) (x).toNatClampNeg)], (hM s))) rfl ?_
    refine dp_if okX6_isClaimed rfl (fun (c : ¬ ((s.2 9) (x).toNatClampNeg) = v1) => ?_) (fun (c : ((s.2 9) (x).toNatClampNeg) = v1) => ?_)
    · have h := dp_ic c h
      refine dp_blk okX6_isClaimed 0 (S' := (37, [some (.inr (some 0)), some (.inl v1), some (.inl x), none, none], [], (hM s))) rfl ?_
      exact wj_X6_isClaimed_37 s v1 x _ h hk
    · have h := dp_ip c h
      refine dp_blk okX6_isClaimed 3 (S' := (25, [some (.inr (some 0)), some (.inl v1), some (.inl x), none, none], [.inl x, .inr (some 11)], (hM s))) rfl ?_
      obtain ⟨hi, h⟩ := dp_ite h
      refine dp_ial (g := (s.2 10)) okX6_isClaimed rfl rfl (dp_inb_in hi) ?_
      refine dp_blk okX6_isClaimed 2 (S' := (30, [some (.inr (some 0)), some (.inl v1), some (.inl x), none, none], [.inl (s.1 12), .inl ((s.2 10) (x).toNatClampNeg)], (hM s))) rfl ?_
      refine dp_if okX6_isClaimed rfl (fun (c : ¬ ((s.2 10) (x).toNatClampNeg) = (s.1 12)) => ?_) (fun (c : ((s.2 10) (x).toNatClampNeg) = (s.1 12)) => ?_)
      · have h := dp_ic c h
        refine dp_blk okX6_isClaimed 0 (S' := (37, [some (.inr (some 0)), some (.inl v1), some (.inl x), none, none], [], (hM s))) rfl ?_
        exact wj_X6_isClaimed_37 s v1 x _ h hk
      · have h := dp_ip c h
        refine dp_blk okX6_isClaimed 2 (S' := (38, [some (.inr (some 0)), some (.inl v1), some (.inl x), none, none], [.inl (1 : Int32)], (hM s))) rfl ?_
        exact wj_X6_isClaimed_38 s v1 x (1 : Int32) _ h hk
def j_X6_isClaimed (s : dp_Z) (v1 : Int32) : Option Int32 := (dp_bd (dp_loop (jb_X6_isClaimed_2 s v1) dp_F (0 : Int32)) fun x => Sum.elim (fun x2 => (some x2)) (fun x2 => (some (0 : Int32))) x)
set_option maxHeartbeats 1000000 in
set_option maxRecDepth 20000 in
theorem we_X6_isClaimed {post : Option dp_V → dp_H → Prop} {h0 : dp_H} (s : dp_Z) (v1 : Int32) (o : Int32) (h : j_X6_isClaimed s v1 = some o) (hk : post (some (.inl o)) (hM s)) : dp_W 0 mX6_isClaimed false h0 0 0 post 0 0 (0, [some (.inr (some 0)), some (.inl v1), none, none, none], [], (hM s)) := by
  unfold j_X6_isClaimed at h
  refine dp_blk okX6_isClaimed 2 (S' := (2, [some (.inr (some 0)), some (.inl v1), some (.inl (0 : Int32)), none, none], [], (hM s))) rfl ?_
  obtain ⟨x2, hl, h⟩ := dp_bd_inv h
  refine dp_loopW (wl_X6_isClaimed_2 s v1) dp_F (0 : Int32) x2 hl ?_
  rcases x2 with x2 | x2
  · simp only [Sum.elim_inl] at h
    cases h
    exact hk
  · simp only [Sum.elim_inr] at h
    show dp_W 0 mX6_isClaimed false h0 0 0 post 0 0 (101, [none, none, none, none, none], [], (hM s))
    refine dp_blk okX6_isClaimed 1 (S' := (102, [none, none, none, none, none], [.inl (0 : Int32)], (hM s))) rfl ?_
    cases h
    exact dp_zret okX6_isClaimed rfl rfl (by decide) hk
theorem c_X6_isClaimed (s : dp_Z) (v1 : Int32) (o : Int32) (h : j_X6_isClaimed s v1 = some o) : dp_C 0 mX6_isClaimed false [.inr (some 0), .inl v1] (hM s) 0 0 (dp_R (some (.inl o)) (hM s)) := dp_C_of okX6_isClaimed [some (.inr (some 0)), some (.inl v1), none, none, none] rfl (Nat.le_of_ble_eq_true rfl) (we_X6_isClaimed s v1 o h ⟨rfl, rfl⟩)
def jb_X6_oldestGoes_2 (x : (dp_Z × Int32)) : Option ((dp_Z × Int32) ⊕ dp_Z) := (if (8 : Int32) ≤ x.2 then (some (.inr x.1)) else (if dp_inb x.2 8 = true then (if dp_inb (x.2 - (1 : Int32)) 8 = true then (dp_bd (some (dp_sr x.1 9 (upd (x.1.2 9) ((x.2 - (1 : Int32))).toNatClampNeg ((x.1.2 9) (x.2).toNatClampNeg)))) fun s1 => (if dp_inb x.2 8 = true then (if dp_inb (x.2 - (1 : Int32)) 8 = true then (dp_bd (some (dp_sr s1 10 (upd (s1.2 10) ((x.2 - (1 : Int32))).toNatClampNeg ((s1.2 10) (x.2).toNatClampNeg)))) fun s2 => (some (.inl (s2, (x.2 + (1 : Int32)))))) else none) else none)) else none) else none))
set_option maxHeartbeats 1000000 in
set_option maxRecDepth 20000 in
theorem wl_X6_oldestGoes_2 {post : Option dp_V → dp_H → Prop} {h0 : dp_H} (x : (dp_Z × Int32)) (o : ((dp_Z × Int32) ⊕ dp_Z)) (h : jb_X6_oldestGoes_2 x = some o) (hk : dp_LK (fun x : (dp_Z × Int32) => dp_W 0 mX6_oldestGoes false h0 0 0 post 0 0 (2, [some (.inr (some 0)), some (.inl x.2)], [], (hM x.1))) (fun x : dp_Z => dp_W 0 mX6_oldestGoes false h0 0 0 post 0 0 (42, [some (.inr (some 0)), none], [], (hM x))) o) : dp_W 0 mX6_oldestGoes false h0 0 0 post 0 0 (2, [some (.inr (some 0)), some (.inl x.2)], [], (hM x.1)) := by
  unfold jb_X6_oldestGoes_2 at h
  refine dp_blk okX6_oldestGoes 2 (S' := (5, [some (.inr (some 0)), some (.inl x.2)], [.inl (8 : Int32), .inl x.2], (hM x.1))) rfl ?_
  refine dp_if okX6_oldestGoes rfl (fun (c : (8 : Int32) ≤ x.2) => ?_) (fun (c : ¬ (8 : Int32) ≤ x.2) => ?_)
  · have h := dp_ip c h
    refine dp_blk okX6_oldestGoes 0 (S' := (42, [some (.inr (some 0)), some (.inl x.2)], [], (hM x.1))) rfl ?_
    cases h
    refine dp_fg [true, false] (L' := [some (.inr (some 0)), none]) rfl rfl ?_
    exact hk
  · have h := dp_ic c h
    refine dp_blk okX6_oldestGoes 8 (S' := (20, [some (.inr (some 0)), some (.inl x.2)], [.inl x.2, .inr (some 10), .inl (x.2 - (1 : Int32)), .inr (some 10)], (hM x.1))) rfl ?_
    obtain ⟨hi, h⟩ := dp_ite h
    refine dp_ial (g := (x.1.2 9)) okX6_oldestGoes rfl rfl (dp_inb_in hi) ?_
    refine dp_blk okX6_oldestGoes 0 (S' := (21, [some (.inr (some 0)), some (.inl x.2)], [.inl ((x.1.2 9) (x.2).toNatClampNeg), .inl (x.2 - (1 : Int32)), .inr (some 10)], (hM x.1))) rfl ?_
    obtain ⟨hi, h⟩ := dp_ite h
    obtain ⟨s1, hs, h⟩ := dp_bd_inv h
    have hs := Option.some.inj hs
    refine dp_iase (g := (x.1.2 9)) okX6_oldestGoes rfl rfl (dp_inb_in hi) ((ahM_9 x.1 _).trans (congrArg hM hs)) ?_
    refine dp_blk okX6_oldestGoes 8 (S' := (34, [some (.inr (some 0)), some (.inl x.2)], [.inl x.2, .inr (some 11), .inl (x.2 - (1 : Int32)), .inr (some 11)], (hM s1))) rfl ?_
    obtain ⟨hi, h⟩ := dp_ite h
    refine dp_ial (g := (s1.2 10)) okX6_oldestGoes rfl rfl (dp_inb_in hi) ?_
    refine dp_blk okX6_oldestGoes 0 (S' := (35, [some (.inr (some 0)), some (.inl x.2)], [.inl ((s1.2 10) (x.2).toNatClampNeg), .inl (x.2 - (1 : Int32)), .inr (some 11)], (hM s1))) rfl ?_
    obtain ⟨hi, h⟩ := dp_ite h
    obtain ⟨s2, hs, h⟩ := dp_bd_inv h
    have hs := Option.some.inj hs
    refine dp_iase (g := (s1.2 10)) okX6_oldestGoes rfl rfl (dp_inb_in hi) ((ahM_10 s1 _).trans (congrArg hM hs)) ?_
    refine dp_blk okX6_oldestGoes 2 (S' := (2, [some (.inr (some 0)), some (.inl (x.2 + (1 : Int32)))], [], (hM s2))) rfl ?_
    cases h
    exact hk
def jb_X6_oldestGoes_45 (x : (dp_Z × Int32)) : Option ((dp_Z × Int32) ⊕ dp_Z) := (if (Int32.ofNat 96) ≤ x.2 then (some (.inr x.1)) else (if dp_inb x.2 96 = true then (if dp_inb (x.2 - (12 : Int32)) 96 = true then (dp_bd (some (dp_sr x.1 11 (upd (x.1.2 11) ((x.2 - (12 : Int32))).toNatClampNeg ((x.1.2 11) (x.2).toNatClampNeg)))) fun s4 => (some (.inl (s4, (x.2 + (1 : Int32)))))) else none) else none))
set_option maxHeartbeats 1000000 in
set_option maxRecDepth 20000 in
theorem wl_X6_oldestGoes_45 {post : Option dp_V → dp_H → Prop} {h0 : dp_H} (x : (dp_Z × Int32)) (o : ((dp_Z × Int32) ⊕ dp_Z)) (h : jb_X6_oldestGoes_45 x = some o) (hk : dp_LK (fun x : (dp_Z × Int32) => dp_W 0 mX6_oldestGoes false h0 0 0 post 0 0 (45, [some (.inr (some 0)), some (.inl x.2)], [], (hM x.1))) (fun x : dp_Z => dp_W 0 mX6_oldestGoes false h0 0 0 post 0 0 (75, [some (.inr (some 0)), none], [], (hM x))) o) : dp_W 0 mX6_oldestGoes false h0 0 0 post 0 0 (45, [some (.inr (some 0)), some (.inl x.2)], [], (hM x.1)) := by
  unfold jb_X6_oldestGoes_45 at h
  refine dp_blk okX6_oldestGoes 3 (S' := (50, [some (.inr (some 0)), some (.inl x.2)], [.inr (some 12), .inl x.2], (hM x.1))) rfl ?_
  refine dp_aln okX6_oldestGoes rfl rfl ?_
  refine dp_blk okX6_oldestGoes 0 (S' := (51, [some (.inr (some 0)), some (.inl x.2)], [.inl (Int32.ofNat 96), .inl x.2], (hM x.1))) rfl ?_
  refine dp_if okX6_oldestGoes rfl (fun (c : (Int32.ofNat 96) ≤ x.2) => ?_) (fun (c : ¬ (Int32.ofNat 96) ≤ x.2) => ?_)
  · have h := dp_ip c h
    refine dp_blk okX6_oldestGoes 0 (S' := (75, [some (.inr (some 0)), some (.inl x.2)], [], (hM x.1))) rfl ?_
    cases h
    refine dp_fg [true, false] (L' := [some (.inr (some 0)), none]) rfl rfl ?_
    exact hk
  · have h := dp_ic c h
    refine dp_blk okX6_oldestGoes 8 (S' := (67, [some (.inr (some 0)), some (.inl x.2)], [.inl x.2, .inr (some 12), .inl (x.2 - (12 : Int32)), .inr (some 12)], (hM x.1))) rfl ?_
    obtain ⟨hi, h⟩ := dp_ite h
    refine dp_ial (g := (x.1.2 11)) okX6_oldestGoes rfl rfl (dp_inb_in hi) ?_
    refine dp_blk okX6_oldestGoes 0 (S' := (68, [some (.inr (some 0)), some (.inl x.2)], [.inl ((x.1.2 11) (x.2).toNatClampNeg), .inl (x.2 - (12 : Int32)), .inr (some 12)], (hM x.1))) rfl ?_
    obtain ⟨hi, h⟩ := dp_ite h
    obtain ⟨s4, hs, h⟩ := dp_bd_inv h
    have hs := Option.some.inj hs
    refine dp_iase (g := (x.1.2 11)) okX6_oldestGoes rfl rfl (dp_inb_in hi) ((ahM_11 x.1 _).trans (congrArg hM hs)) ?_
    refine dp_blk okX6_oldestGoes 2 (S' := (45, [some (.inr (some 0)), some (.inl (x.2 + (1 : Int32)))], [], (hM s4))) rfl ?_
    cases h
    exact hk
def j_X6_oldestGoes (s : dp_Z) : Option dp_Z := (dp_bd (dp_loop (jb_X6_oldestGoes_2) dp_F (s, (1 : Int32))) fun x3 => (dp_bd (dp_loop (jb_X6_oldestGoes_45) dp_F (x3, (12 : Int32))) fun x5 => (dp_bd (some (dp_sf x5 13 ((x5.1 13) - (1 : Int32)))) fun s6 => (some s6))))
set_option maxHeartbeats 1000000 in
set_option maxRecDepth 20000 in
theorem we_X6_oldestGoes {post : Option dp_V → dp_H → Prop} {h0 : dp_H} (s : dp_Z) (o : dp_Z) (h : j_X6_oldestGoes s = some o) (hk : post none (hM o)) : dp_W 0 mX6_oldestGoes false h0 0 0 post 0 0 (0, [some (.inr (some 0)), none], [], (hM s)) := by
  unfold j_X6_oldestGoes at h
  refine dp_blk okX6_oldestGoes 2 (S' := (2, [some (.inr (some 0)), some (.inl (1 : Int32))], [], (hM s))) rfl ?_
  obtain ⟨x3, hl, h⟩ := dp_bd_inv h
  refine dp_loopW (wl_X6_oldestGoes_2) dp_F (s, (1 : Int32)) x3 hl ?_
  show dp_W 0 mX6_oldestGoes false h0 0 0 post 0 0 (42, [some (.inr (some 0)), none], [], (hM x3))
  refine dp_blk okX6_oldestGoes 2 (S' := (45, [some (.inr (some 0)), some (.inl (12 : Int32))], [], (hM x3))) rfl ?_
  obtain ⟨x5, hl, h⟩ := dp_bd_inv h
  refine dp_loopW (wl_X6_oldestGoes_45) dp_F (x3, (12 : Int32)) x5 hl ?_
  show dp_W 0 mX6_oldestGoes false h0 0 0 post 0 0 (75, [some (.inr (some 0)), none], [], (hM x5))
  refine dp_blk okX6_oldestGoes 5 (S' := (82, [some (.inr (some 0)), none], [.inl ((x5.1 13) - (1 : Int32)), .inr (some 0)], (hM x5))) rfl ?_
  obtain ⟨s6, hs, h⟩ := dp_bd_inv h
  have hs := Option.some.inj hs
  refine dp_pfe okX6_oldestGoes rfl (by decide) (qhM_0 x5) (Nat.le_of_ble_eq_true rfl) ((phM_13 x5 ((x5.1 13) - (1 : Int32))).trans (congrArg hM hs)) ?_
  refine dp_blk okX6_oldestGoes 0 (S' := (85, [some (.inr (some 0)), none], [], (hM s6))) rfl ?_
  cases h
  exact dp_vret okX6_oldestGoes rfl rfl hk
theorem c_X6_oldestGoes (s : dp_Z) (o : dp_Z) (h : j_X6_oldestGoes s = some o) : dp_C 0 mX6_oldestGoes false [.inr (some 0)] (hM s) 0 0 (dp_R none (hM o)) := dp_C_of okX6_oldestGoes [some (.inr (some 0)), none] rfl (Nat.le_of_ble_eq_true rfl) (we_X6_oldestGoes s o h ⟨rfl, rfl⟩)
def jb_X6_tell_69 (x : (dp_Z × Int32)) : Option ((dp_Z × Int32) ⊕ dp_Z) := (if (x.1.1 12) ≤ x.2 then (some (.inr x.1)) else (if dp_inb x.2 12 = true then (if dp_inb (((12 : Int32) * (x.1.1 13)) + x.2) 96 = true then (dp_bd (some (dp_sr x.1 11 (upd (x.1.2 11) ((((12 : Int32) * (x.1.1 13)) + x.2)).toNatClampNeg ((x.1.2 8) (x.2).toNatClampNeg)))) fun s5 => (some (.inl (s5, (x.2 + (1 : Int32)))))) else none) else none))
set_option maxHeartbeats 1000000 in
set_option maxRecDepth 20000 in
theorem wl_X6_tell_69 {post : Option dp_V → dp_H → Prop} {h0 : dp_H} (x : (dp_Z × Int32)) (o : ((dp_Z × Int32) ⊕ dp_Z)) (h : jb_X6_tell_69 x = some o) (hk : dp_LK (fun x : (dp_Z × Int32) => dp_W 1 mX6_tell false h0 0 0 post 0 0 (69, [some (.inr (some 0)), none, some (.inl x.2)], [], (hM x.1))) (fun x : dp_Z => dp_W 1 mX6_tell false h0 0 0 post 0 0 (103, [some (.inr (some 0)), none, none], [], (hM x))) o) : dp_W 1 mX6_tell false h0 0 0 post 0 0 (69, [some (.inr (some 0)), none, some (.inl x.2)], [], (hM x.1)) := by
  unfold jb_X6_tell_69 at h
  refine dp_blk okX6_tell 3 (S' := (74, [some (.inr (some 0)), none, some (.inl x.2)], [.inl (x.1.1 12), .inl x.2], (hM x.1))) rfl ?_
  refine dp_if okX6_tell rfl (fun (c : (x.1.1 12) ≤ x.2) => ?_) (fun (c : ¬ (x.1.1 12) ≤ x.2) => ?_)
  · have h := dp_ip c h
    refine dp_blk okX6_tell 0 (S' := (103, [some (.inr (some 0)), none, some (.inl x.2)], [], (hM x.1))) rfl ?_
    cases h
    refine dp_fg [true, false, false] (L' := [some (.inr (some 0)), none, none]) rfl rfl ?_
    exact hk
  · have h := dp_ic c h
    refine dp_blk okX6_tell 11 (S' := (95, [some (.inr (some 0)), none, some (.inl x.2)], [.inl x.2, .inr (some 9), .inl (((12 : Int32) * (x.1.1 13)) + x.2), .inr (some 12)], (hM x.1))) rfl ?_
    obtain ⟨hi, h⟩ := dp_ite h
    refine dp_ial (g := (x.1.2 8)) okX6_tell rfl rfl (dp_inb_in hi) ?_
    refine dp_blk okX6_tell 0 (S' := (96, [some (.inr (some 0)), none, some (.inl x.2)], [.inl ((x.1.2 8) (x.2).toNatClampNeg), .inl (((12 : Int32) * (x.1.1 13)) + x.2), .inr (some 12)], (hM x.1))) rfl ?_
    obtain ⟨hi, h⟩ := dp_ite h
    obtain ⟨s5, hs, h⟩ := dp_bd_inv h
    have hs := Option.some.inj hs
    refine dp_iase (g := (x.1.2 11)) okX6_tell rfl rfl (dp_inb_in hi) ((ahM_11 x.1 _).trans (congrArg hM hs)) ?_
    refine dp_blk okX6_tell 2 (S' := (69, [some (.inr (some 0)), none, some (.inl (x.2 + (1 : Int32)))], [], (hM s5))) rfl ?_
    cases h
    exact hk
def jj_X6_tell_44 (s : dp_Z) (v1 : Int32) : Option (Int32 × dp_Z) := (if dp_inb (s.1 13) 8 = true then (dp_bd (some (dp_sr s 9 (upd (s.2 9) ((s.1 13)).toNatClampNeg v1))) fun s3 => (if dp_inb (s3.1 13) 8 = true then (dp_bd (some (dp_sr s3 10 (upd (s3.2 10) ((s3.1 13)).toNatClampNeg (s3.1 12)))) fun s4 => (dp_bd (dp_loop (jb_X6_tell_69) dp_F (s4, (0 : Int32))) fun x6 => (dp_bd (some (dp_sf x6 13 ((x6.1 13) + (1 : Int32)))) fun s7 => (dp_bd (some (dp_sf s7 12 (0 : Int32))) fun s8 => (some ((s8.1 13), s8)))))) else none)) else none)
set_option maxHeartbeats 1000000 in
set_option maxRecDepth 20000 in
theorem wj_X6_tell_44 {post : Option dp_V → dp_H → Prop} {h0 : dp_H} (s : dp_Z) (v1 : Int32) (o : (Int32 × dp_Z)) (h : jj_X6_tell_44 s v1 = some o) (hk : post (some (.inl o.1)) (hM o.2)) : dp_W 1 mX6_tell false h0 0 0 post 0 0 (44, [some (.inr (some 0)), some (.inl v1), none], [], (hM s)) := by
  unfold jj_X6_tell_44 at h
  refine dp_blk okX6_tell 5 (S' := (53, [some (.inr (some 0)), some (.inl v1), none], [.inl v1, .inl (s.1 13), .inr (some 10)], (hM s))) rfl ?_
  obtain ⟨hi, h⟩ := dp_ite h
  obtain ⟨s3, hs, h⟩ := dp_bd_inv h
  have hs := Option.some.inj hs
  refine dp_iase (g := (s.2 9)) okX6_tell rfl rfl (dp_inb_in hi) ((ahM_9 s _).trans (congrArg hM hs)) ?_
  refine dp_blk okX6_tell 6 (S' := (66, [some (.inr (some 0)), some (.inl v1), none], [.inl (s3.1 12), .inl (s3.1 13), .inr (some 11)], (hM s3))) rfl ?_
  obtain ⟨hi, h⟩ := dp_ite h
  obtain ⟨s4, hs, h⟩ := dp_bd_inv h
  have hs := Option.some.inj hs
  refine dp_iase (g := (s3.2 10)) okX6_tell rfl rfl (dp_inb_in hi) ((ahM_10 s3 _).trans (congrArg hM hs)) ?_
  refine dp_blk okX6_tell 2 (S' := (69, [some (.inr (some 0)), some (.inl v1), some (.inl (0 : Int32))], [], (hM s4))) rfl ?_
  refine dp_fg [true, false, true] (L' := [some (.inr (some 0)), none, some (.inl (0 : Int32))]) rfl rfl ?_
  obtain ⟨x6, hl, h⟩ := dp_bd_inv h
  refine dp_loopW (wl_X6_tell_69) dp_F (s4, (0 : Int32)) x6 hl ?_
  show dp_W 1 mX6_tell false h0 0 0 post 0 0 (103, [some (.inr (some 0)), none, none], [], (hM x6))
  refine dp_blk okX6_tell 5 (S' := (110, [some (.inr (some 0)), none, none], [.inl ((x6.1 13) + (1 : Int32)), .inr (some 0)], (hM x6))) rfl ?_
  obtain ⟨s7, hs, h⟩ := dp_bd_inv h
  have hs := Option.some.inj hs
  refine dp_pfe okX6_tell rfl (by decide) (qhM_0 x6) (Nat.le_of_ble_eq_true rfl) ((phM_13 x6 ((x6.1 13) + (1 : Int32))).trans (congrArg hM hs)) ?_
  refine dp_blk okX6_tell 2 (S' := (115, [some (.inr (some 0)), none, none], [.inl (0 : Int32), .inr (some 0)], (hM s7))) rfl ?_
  obtain ⟨s8, hs, h⟩ := dp_bd_inv h
  have hs := Option.some.inj hs
  refine dp_pfe okX6_tell rfl (by decide) (qhM_0 s7) (Nat.le_of_ble_eq_true rfl) ((phM_12 s7 (0 : Int32)).trans (congrArg hM hs)) ?_
  refine dp_blk okX6_tell 2 (S' := (122, [some (.inr (some 0)), none, none], [.inl (s8.1 13)], (hM s8))) rfl ?_
  cases h
  exact dp_iret okX6_tell rfl rfl hk
def j_X6_tell (s : dp_Z) (v1 : Int32) : Option (Int32 × dp_Z) := (dp_bd (j_X6_within v1 (0 : Int32) (3 : Int32)) fun x1 => (if x1 = (0 : Int32) then (some ((-2 : Int32), s)) else (if (s.1 12) < (2 : Int32) then (some ((-3 : Int32), s)) else (dp_bd (j_X6_isClaimed s v1) fun x2 => (if x2 = (0 : Int32) then (if (s.1 13) = (8 : Int32) then (dp_bd (j_X6_oldestGoes s) fun x9 => (jj_X6_tell_44 x9 v1)) else (jj_X6_tell_44 s v1)) else (some ((-3 : Int32), s)))))))
set_option maxHeartbeats 1000000 in
set_option maxRecDepth 20000 in
theorem we_X6_tell {post : Option dp_V → dp_H → Prop} {h0 : dp_H} (s : dp_Z) (v1 : Int32) (o : (Int32 × dp_Z)) (h : j_X6_tell s v1 = some o) (hk : post (some (.inl o.1)) (hM o.2)) : dp_W 1 mX6_tell false h0 0 0 post 0 0 (0, [some (.inr (some 0)), some (.inl v1), none], [], (hM s)) := by
  unfold j_X6_tell at h
  refine dp_blk okX6_tell 3 (S' := (3, [some (.inr (some 0)), some (.inl v1), none], [.inl (3 : Int32), .inl (0 : Int32), .inl v1], (hM s))) rfl ?_
  obtain ⟨x1, hc, h⟩ := dp_bd_inv h
  refine dp_cS okX6_tell okX6_within (as := [.inl v1, .inl (0 : Int32), .inl (3 : Int32)]) (r := []) rfl lk_NearLiarsModel_63 npX6_within (c_X6_within (hM s) v1 (0 : Int32) (3 : Int32) x1 hc) rfl (Nat.le_of_ble_eq_true rfl) (Nat.le_of_ble_eq_true rfl) (Nat.le_refl _) (Nat.le_refl _) ?_
  refine dp_blk okX6_tell 0 (S' := (6, [some (.inr (some 0)), some (.inl v1), none], [.inl x1], (hM s))) rfl ?_
  refine dp_if0 okX6_tell rfl (fun (c : ¬ x1 = (0 : Int32)) => ?_) (fun (c : x1 = (0 : Int32)) => ?_)
  · have h := dp_ic c h
    refine dp_blk okX6_tell 3 (S' := (17, [some (.inr (some 0)), some (.inl v1), none], [.inl (2 : Int32), .inl (s.1 12)], (hM s))) rfl ?_
    refine dp_if okX6_tell rfl (fun (c : (s.1 12) < (2 : Int32)) => ?_) (fun (c : ¬ (s.1 12) < (2 : Int32)) => ?_)
    · have h := dp_ip c h
      refine dp_blk okX6_tell 1 (S' := (30, [some (.inr (some 0)), some (.inl v1), none], [.inl (-3 : Int32)], (hM s))) rfl ?_
      cases h
      exact dp_iret okX6_tell rfl rfl hk
    · have h := dp_ic c h
      refine dp_blk okX6_tell 2 (S' := (22, [some (.inr (some 0)), some (.inl v1), none], [.inl v1, .inr (some 0)], (hM s))) rfl ?_
      obtain ⟨x2, hc, h⟩ := dp_bd_inv h
      refine dp_cV okX6_tell okX6_isClaimed (as := [.inl v1]) (r := []) rfl lk_NearLiarsModel_168 npX6_isClaimed (c_X6_isClaimed s v1 x2 hc) rfl rfl rfl rfl (Nat.le_of_ble_eq_true rfl) (Nat.le_of_ble_eq_true rfl) (Nat.le_refl _) (Nat.le_refl _) ?_
      refine dp_blk okX6_tell 0 (S' := (25, [some (.inr (some 0)), some (.inl v1), none], [.inl x2], (hM s))) rfl ?_
      refine dp_if0 okX6_tell rfl (fun (c : x2 = (0 : Int32)) => ?_) (fun (c : ¬ x2 = (0 : Int32)) => ?_)
      · have h := dp_ip c h
        refine dp_blk okX6_tell 3 (S' := (37, [some (.inr (some 0)), some (.inl v1), none], [.inl (8 : Int32), .inl (s.1 13)], (hM s))) rfl ?_
        refine dp_if okX6_tell rfl (fun (c : ¬ (s.1 13) = (8 : Int32)) => ?_) (fun (c : (s.1 13) = (8 : Int32)) => ?_)
        · have h := dp_ic c h
          refine dp_blk okX6_tell 0 (S' := (44, [some (.inr (some 0)), some (.inl v1), none], [], (hM s))) rfl ?_
          exact wj_X6_tell_44 s v1 _ h hk
        · have h := dp_ip c h
          refine dp_blk okX6_tell 1 (S' := (41, [some (.inr (some 0)), some (.inl v1), none], [.inr (some 0)], (hM s))) rfl ?_
          obtain ⟨x9, hc, h⟩ := dp_bd_inv h
          refine dp_cV okX6_tell okX6_oldestGoes (as := []) (r := []) rfl lk_NearLiarsModel_171 npX6_oldestGoes (c_X6_oldestGoes s x9 hc) rfl rfl rfl rfl (Nat.le_of_ble_eq_true rfl) (Nat.le_of_ble_eq_true rfl) (Nat.le_refl _) (Nat.le_refl _) ?_
          refine dp_blk okX6_tell 0 (S' := (44, [some (.inr (some 0)), some (.inl v1), none], [], (hM x9))) rfl ?_
          exact wj_X6_tell_44 x9 v1 _ h hk
      · have h := dp_ic c h
        refine dp_blk okX6_tell 1 (S' := (30, [some (.inr (some 0)), some (.inl v1), none], [.inl (-3 : Int32)], (hM s))) rfl ?_
        cases h
        exact dp_iret okX6_tell rfl rfl hk
  · have h := dp_ip c h
    refine dp_blk okX6_tell 1 (S' := (11, [some (.inr (some 0)), some (.inl v1), none], [.inl (-2 : Int32)], (hM s))) rfl ?_
    cases h
    exact dp_iret okX6_tell rfl rfl hk
theorem c_X6_tell (s : dp_Z) (v1 : Int32) (o : (Int32 × dp_Z)) (h : j_X6_tell s v1 = some o) : dp_C 1 mX6_tell false [.inr (some 0), .inl v1] (hM s) 0 0 (dp_R (some (.inl o.1)) (hM o.2)) := dp_C_of okX6_tell [some (.inr (some 0)), some (.inl v1), none] rfl (Nat.le_of_ble_eq_true rfl) (we_X6_tell s v1 o h ⟨rfl, rfl⟩)
def j_X6_drop (s : dp_Z) : Option (Int32 × dp_Z) := (dp_bd (some (dp_sf s 12 (0 : Int32))) fun s1 => (some ((s.1 12), s1)))
set_option maxHeartbeats 1000000 in
set_option maxRecDepth 20000 in
theorem we_X6_drop {post : Option dp_V → dp_H → Prop} {h0 : dp_H} (s : dp_Z) (o : (Int32 × dp_Z)) (h : j_X6_drop s = some o) (hk : post (some (.inl o.1)) (hM o.2)) : dp_W 0 mX6_drop false h0 0 0 post 0 0 (0, [some (.inr (some 0)), none], [], (hM s)) := by
  unfold j_X6_drop at h
  refine dp_blk okX6_drop 5 (S' := (7, [some (.inr (some 0)), some (.inl (s.1 12))], [.inl (0 : Int32), .inr (some 0)], (hM s))) rfl ?_
  obtain ⟨s1, hs, h⟩ := dp_bd_inv h
  have hs := Option.some.inj hs
  refine dp_pfe okX6_drop rfl (by decide) (qhM_0 s) (Nat.le_of_ble_eq_true rfl) ((phM_12 s (0 : Int32)).trans (congrArg hM hs)) ?_
  refine dp_blk okX6_drop 1 (S' := (11, [some (.inr (some 0)), some (.inl (s.1 12))], [.inl (s.1 12)], (hM s1))) rfl ?_
  cases h
  exact dp_iret okX6_drop rfl rfl hk
theorem c_X6_drop (s : dp_Z) (o : (Int32 × dp_Z)) (h : j_X6_drop s = some o) : dp_C 0 mX6_drop false [.inr (some 0)] (hM s) 0 0 (dp_R (some (.inl o.1)) (hM o.2)) := dp_C_of okX6_drop [some (.inr (some 0)), none] rfl (Nat.le_of_ble_eq_true rfl) (we_X6_drop s o h ⟨rfl, rfl⟩)
def jb_X6_setOf_4 (s : dp_Z) (v1 : Int32) (x : (Int32 × Int32)) : Option ((Int32 × Int32) ⊕ Int32) := (if dp_inb v1 8 = true then (if ((s.2 10) (v1).toNatClampNeg) ≤ x.2 then (some (.inr x.1)) else (if dp_inb (((12 : Int32) * v1) + x.2) 96 = true then (dp_bd (some (x.1 ||| ((1 : Int32) <<< (((s.2 11) ((((12 : Int32) * v1) + x.2)).toNatClampNeg) &&& 31)))) fun y1 => (some (.inl (y1, (x.2 + (1 : Int32)))))) else none)) else none)
set_option maxHeartbeats 1000000 in
set_option maxRecDepth 20000 in
theorem wl_X6_setOf_4 {post : Option dp_V → dp_H → Prop} {h0 : dp_H} (s : dp_Z) (v1 : Int32) (x : (Int32 × Int32)) (o : ((Int32 × Int32) ⊕ Int32)) (h : jb_X6_setOf_4 s v1 x = some o) (hk : dp_LK (fun x : (Int32 × Int32) => dp_W 0 mX6_setOf false h0 0 0 post 0 0 (4, [some (.inr (some 0)), some (.inl v1), some (.inl x.1), some (.inl x.2)], [], (hM s))) (fun x : Int32 => dp_W 0 mX6_setOf false h0 0 0 post 0 0 (36, [none, none, some (.inl x), none], [], (hM s))) o) : dp_W 0 mX6_setOf false h0 0 0 post 0 0 (4, [some (.inr (some 0)), some (.inl v1), some (.inl x.1), some (.inl x.2)], [], (hM s)) := by
  unfold jb_X6_setOf_4 at h
  refine dp_blk okX6_setOf 4 (S' := (10, [some (.inr (some 0)), some (.inl v1), some (.inl x.1), some (.inl x.2)], [.inl v1, .inr (some 11), .inl x.2], (hM s))) rfl ?_
  obtain ⟨hi, h⟩ := dp_ite h
  refine dp_ial (g := (s.2 10)) okX6_setOf rfl rfl (dp_inb_in hi) ?_
  refine dp_blk okX6_setOf 0 (S' := (11, [some (.inr (some 0)), some (.inl v1), some (.inl x.1), some (.inl x.2)], [.inl ((s.2 10) (v1).toNatClampNeg), .inl x.2], (hM s))) rfl ?_
  refine dp_if okX6_setOf rfl (fun (c : ((s.2 10) (v1).toNatClampNeg) ≤ x.2) => ?_) (fun (c : ¬ ((s.2 10) (v1).toNatClampNeg) ≤ x.2) => ?_)
  · have h := dp_ip c h
    refine dp_blk okX6_setOf 0 (S' := (36, [some (.inr (some 0)), some (.inl v1), some (.inl x.1), some (.inl x.2)], [], (hM s))) rfl ?_
    cases h
    refine dp_fg [false, false, true, false] (L' := [none, none, some (.inl x.1), none]) rfl rfl ?_
    exact hk
  · have h := dp_ic c h
    refine dp_blk okX6_setOf 9 (S' := (26, [some (.inr (some 0)), some (.inl v1), some (.inl x.1), some (.inl x.2)], [.inl (((12 : Int32) * v1) + x.2), .inr (some 12), .inl (1 : Int32), .inl x.1], (hM s))) rfl ?_
    obtain ⟨hi, h⟩ := dp_ite h
    refine dp_ial (g := (s.2 11)) okX6_setOf rfl rfl (dp_inb_in hi) ?_
    obtain ⟨y1, hy, h⟩ := dp_bd_inv h
    have hy := Option.some.inj hy
    refine dp_blk okX6_setOf 3 (S' := (30, [some (.inr (some 0)), some (.inl v1), some (.inl y1), some (.inl x.2)], [], (hM s))) (by subst hy; rfl) ?_
    refine dp_blk okX6_setOf 2 (S' := (4, [some (.inr (some 0)), some (.inl v1), some (.inl y1), some (.inl (x.2 + (1 : Int32)))], [], (hM s))) rfl ?_
    cases h
    exact hk
def j_X6_setOf (s : dp_Z) (v1 : Int32) : Option Int32 := (dp_bd (dp_loop (jb_X6_setOf_4 s v1) dp_F ((0 : Int32), (0 : Int32))) fun x2 => (some x2))
set_option maxHeartbeats 1000000 in
set_option maxRecDepth 20000 in
theorem we_X6_setOf {post : Option dp_V → dp_H → Prop} {h0 : dp_H} (s : dp_Z) (v1 : Int32) (o : Int32) (h : j_X6_setOf s v1 = some o) (hk : post (some (.inl o)) (hM s)) : dp_W 0 mX6_setOf false h0 0 0 post 0 0 (0, [some (.inr (some 0)), some (.inl v1), none, none], [], (hM s)) := by
  unfold j_X6_setOf at h
  refine dp_blk okX6_setOf 4 (S' := (4, [some (.inr (some 0)), some (.inl v1), some (.inl (0 : Int32)), some (.inl (0 : Int32))], [], (hM s))) rfl ?_
  obtain ⟨x2, hl, h⟩ := dp_bd_inv h
  refine dp_loopW (wl_X6_setOf_4 s v1) dp_F ((0 : Int32), (0 : Int32)) x2 hl ?_
  show dp_W 0 mX6_setOf false h0 0 0 post 0 0 (36, [none, none, some (.inl x2), none], [], (hM s))
  refine dp_blk okX6_setOf 1 (S' := (37, [none, none, some (.inl x2), none], [.inl x2], (hM s))) rfl ?_
  cases h
  exact dp_iret okX6_setOf rfl rfl hk
theorem c_X6_setOf (s : dp_Z) (v1 : Int32) (o : Int32) (h : j_X6_setOf s v1 = some o) : dp_C 0 mX6_setOf false [.inr (some 0), .inl v1] (hM s) 0 0 (dp_R (some (.inl o)) (hM s)) := dp_C_of okX6_setOf [some (.inr (some 0)), some (.inl v1), none, none] rfl (Nat.le_of_ble_eq_true rfl) (we_X6_setOf s v1 o h ⟨rfl, rfl⟩)
def j_X6_claim (s : dp_Z) (v1 v2 : Int32) : Option Int32 := (dp_bd (j_X6_within v1 (0 : Int32) ((s.1 13) - (1 : Int32))) fun x1 => (if x1 = (0 : Int32) then (some (-2 : Int32)) else (dp_bd (j_X6_within v2 (10 : Int32) (21 : Int32)) fun x2 => (if x2 = (0 : Int32) then (if v2 = (0 : Int32) then (if dp_inb v1 8 = true then (some ((s.2 9) (v1).toNatClampNeg)) else none) else (if v2 = (1 : Int32) then (if dp_inb v1 8 = true then (some ((s.2 10) (v1).toNatClampNeg)) else none) else (if v2 = (2 : Int32) then (dp_bd (j_X6_setOf s v1) fun x3 => (some x3)) else (some (-2 : Int32))))) else (if dp_inb v1 8 = true then (if ((s.2 10) (v1).toNatClampNeg) ≤ (v2 - (10 : Int32)) then (some (-9 : Int32)) else (if dp_inb ((((12 : Int32) * v1) + v2) - (10 : Int32)) 96 = true then (some ((s.2 11) (((((12 : Int32) * v1) + v2) - (10 : Int32))).toNatClampNeg)) else none)) else none)))))
set_option maxHeartbeats 1000000 in
set_option maxRecDepth 20000 in
theorem we_X6_claim {post : Option dp_V → dp_H → Prop} {h0 : dp_H} (s : dp_Z) (v1 v2 : Int32) (o : Int32) (h : j_X6_claim s v1 v2 = some o) (hk : post (some (.inl o)) (hM s)) : dp_W 1 mX6_claim false h0 0 0 post 0 0 (0, [some (.inr (some 0)), some (.inl v1), some (.inl v2)], [], (hM s)) := by
  unfold j_X6_claim at h
  refine dp_blk okX6_claim 6 (S' := (8, [some (.inr (some 0)), some (.inl v1), some (.inl v2)], [.inl ((s.1 13) - (1 : Int32)), .inl (0 : Int32), .inl v1], (hM s))) rfl ?_
  obtain ⟨x1, hc, h⟩ := dp_bd_inv h
  refine dp_cS okX6_claim okX6_within (as := [.inl v1, .inl (0 : Int32), .inl ((s.1 13) - (1 : Int32))]) (r := []) rfl lk_NearLiarsModel_63 npX6_within (c_X6_within (hM s) v1 (0 : Int32) ((s.1 13) - (1 : Int32)) x1 hc) rfl (Nat.le_of_ble_eq_true rfl) (Nat.le_of_ble_eq_true rfl) (Nat.le_refl _) (Nat.le_refl _) ?_
  refine dp_blk okX6_claim 0 (S' := (11, [some (.inr (some 0)), some (.inl v1), some (.inl v2)], [.inl x1], (hM s))) rfl ?_
  refine dp_if0 okX6_claim rfl (fun (c : ¬ x1 = (0 : Int32)) => ?_) (fun (c : x1 = (0 : Int32)) => ?_)
  · have h := dp_ic c h
    refine dp_blk okX6_claim 3 (S' := (22, [some (.inr (some 0)), some (.inl v1), some (.inl v2)], [.inl (21 : Int32), .inl (10 : Int32), .inl v2], (hM s))) rfl ?_
    obtain ⟨x2, hc, h⟩ := dp_bd_inv h
    refine dp_cS okX6_claim okX6_within (as := [.inl v2, .inl (10 : Int32), .inl (21 : Int32)]) (r := []) rfl lk_NearLiarsModel_63 npX6_within (c_X6_within (hM s) v2 (10 : Int32) (21 : Int32) x2 hc) rfl (Nat.le_of_ble_eq_true rfl) (Nat.le_of_ble_eq_true rfl) (Nat.le_refl _) (Nat.le_refl _) ?_
    refine dp_blk okX6_claim 0 (S' := (25, [some (.inr (some 0)), some (.inl v1), some (.inl v2)], [.inl x2], (hM s))) rfl ?_
    refine dp_if0 okX6_claim rfl (fun (c : x2 = (0 : Int32)) => ?_) (fun (c : ¬ x2 = (0 : Int32)) => ?_)
    · have h := dp_ip c h
      refine dp_blk okX6_claim 1 (S' := (62, [some (.inr (some 0)), some (.inl v1), some (.inl v2)], [.inl v2], (hM s))) rfl ?_
      refine dp_if0 okX6_claim rfl (fun (c : ¬ v2 = (0 : Int32)) => ?_) (fun (c : v2 = (0 : Int32)) => ?_)
      · have h := dp_ic c h
        refine dp_blk okX6_claim 2 (S' := (76, [some (.inr (some 0)), some (.inl v1), some (.inl v2)], [.inl (1 : Int32), .inl v2], (hM s))) rfl ?_
        refine dp_if okX6_claim rfl (fun (c : ¬ v2 = (1 : Int32)) => ?_) (fun (c : v2 = (1 : Int32)) => ?_)
        · have h := dp_ic c h
          refine dp_blk okX6_claim 2 (S' := (90, [some (.inr (some 0)), some (.inl v1), some (.inl v2)], [.inl (2 : Int32), .inl v2], (hM s))) rfl ?_
          refine dp_if okX6_claim rfl (fun (c : ¬ v2 = (2 : Int32)) => ?_) (fun (c : v2 = (2 : Int32)) => ?_)
          · have h := dp_ic c h
            refine dp_blk okX6_claim 1 (S' := (103, [some (.inr (some 0)), some (.inl v1), some (.inl v2)], [.inl (-2 : Int32)], (hM s))) rfl ?_
            cases h
            exact dp_iret okX6_claim rfl rfl hk
          · have h := dp_ip c h
            refine dp_blk okX6_claim 2 (S' := (95, [some (.inr (some 0)), some (.inl v1), some (.inl v2)], [.inl v1, .inr (some 0)], (hM s))) rfl ?_
            obtain ⟨x3, hc, h⟩ := dp_bd_inv h
            refine dp_cV okX6_claim okX6_setOf (as := [.inl v1]) (r := []) rfl lk_NearLiarsModel_174 npX6_setOf (c_X6_setOf s v1 x3 hc) rfl rfl rfl rfl (Nat.le_of_ble_eq_true rfl) (Nat.le_of_ble_eq_true rfl) (Nat.le_refl _) (Nat.le_refl _) ?_
            refine dp_blk okX6_claim 1 (S' := (103, [some (.inr (some 0)), some (.inl v1), some (.inl v2)], [.inl x3], (hM s))) rfl ?_
            cases h
            exact dp_iret okX6_claim rfl rfl hk
        · have h := dp_ip c h
          refine dp_blk okX6_claim 3 (S' := (84, [some (.inr (some 0)), some (.inl v1), some (.inl v2)], [.inl v1, .inr (some 11)], (hM s))) rfl ?_
          obtain ⟨hi, h⟩ := dp_ite h
          refine dp_ial (g := (s.2 10)) okX6_claim rfl rfl (dp_inb_in hi) ?_
          refine dp_blk okX6_claim 1 (S' := (103, [some (.inr (some 0)), some (.inl v1), some (.inl v2)], [.inl ((s.2 10) (v1).toNatClampNeg)], (hM s))) rfl ?_
          cases h
          exact dp_iret okX6_claim rfl rfl hk
      · have h := dp_ip c h
        refine dp_blk okX6_claim 3 (S' := (70, [some (.inr (some 0)), some (.inl v1), some (.inl v2)], [.inl v1, .inr (some 10)], (hM s))) rfl ?_
        obtain ⟨hi, h⟩ := dp_ite h
        refine dp_ial (g := (s.2 9)) okX6_claim rfl rfl (dp_inb_in hi) ?_
        refine dp_blk okX6_claim 1 (S' := (103, [some (.inr (some 0)), some (.inl v1), some (.inl v2)], [.inl ((s.2 9) (v1).toNatClampNeg)], (hM s))) rfl ?_
        cases h
        exact dp_iret okX6_claim rfl rfl hk
    · have h := dp_ic c h
      refine dp_blk okX6_claim 6 (S' := (37, [some (.inr (some 0)), some (.inl v1), some (.inl v2)], [.inl v1, .inr (some 11), .inl (v2 - (10 : Int32))], (hM s))) rfl ?_
      obtain ⟨hi, h⟩ := dp_ite h
      refine dp_ial (g := (s.2 10)) okX6_claim rfl rfl (dp_inb_in hi) ?_
      refine dp_blk okX6_claim 0 (S' := (38, [some (.inr (some 0)), some (.inl v1), some (.inl v2)], [.inl ((s.2 10) (v1).toNatClampNeg), .inl (v2 - (10 : Int32))], (hM s))) rfl ?_
      refine dp_if okX6_claim rfl (fun (c : ((s.2 10) (v1).toNatClampNeg) ≤ (v2 - (10 : Int32))) => ?_) (fun (c : ¬ ((s.2 10) (v1).toNatClampNeg) ≤ (v2 - (10 : Int32))) => ?_)
      · have h := dp_ip c h
        refine dp_blk okX6_claim 1 (S' := (60, [some (.inr (some 0)), some (.inl v1), some (.inl v2)], [.inl (-9 : Int32)], (hM s))) rfl ?_
        cases h
        exact dp_iret okX6_claim rfl rfl hk
      · have h := dp_ic c h
        refine dp_blk okX6_claim 9 (S' := (54, [some (.inr (some 0)), some (.inl v1), some (.inl v2)], [.inl ((((12 : Int32) * v1) + v2) - (10 : Int32)), .inr (some 12)], (hM s))) rfl ?_
        obtain ⟨hi, h⟩ := dp_ite h
        refine dp_ial (g := (s.2 11)) okX6_claim rfl rfl (dp_inb_in hi) ?_
        refine dp_blk okX6_claim 1 (S' := (60, [some (.inr (some 0)), some (.inl v1), some (.inl v2)], [.inl ((s.2 11) (((((12 : Int32) * v1) + v2) - (10 : Int32))).toNatClampNeg)], (hM s))) rfl ?_
        cases h
        exact dp_iret okX6_claim rfl rfl hk
  · have h := dp_ip c h
    refine dp_blk okX6_claim 1 (S' := (16, [some (.inr (some 0)), some (.inl v1), some (.inl v2)], [.inl (-2 : Int32)], (hM s))) rfl ?_
    cases h
    exact dp_iret okX6_claim rfl rfl hk
theorem c_X6_claim (s : dp_Z) (v1 v2 : Int32) (o : Int32) (h : j_X6_claim s v1 v2 = some o) : dp_C 1 mX6_claim false [.inr (some 0), .inl v1, .inl v2] (hM s) 0 0 (dp_R (some (.inl o)) (hM s)) := dp_C_of okX6_claim [some (.inr (some 0)), some (.inl v1), some (.inl v2)] rfl (Nat.le_of_ble_eq_true rfl) (we_X6_claim s v1 v2 o h ⟨rfl, rfl⟩)
def jj_X6_proves_117 (s : dp_Z) (v1 v2 v3 v4 v5 v6 : Int32) : Option ((Int32 × Int32 × Int32) ⊕ (Int32 ⊕ Int32)) := (some (.inl (v4, v5, (v6 + (1 : Int32)))))
set_option maxHeartbeats 1000000 in
set_option maxRecDepth 20000 in
theorem wj_X6_proves_117 {post : Option dp_V → dp_H → Prop} {h0 : dp_H} (s : dp_Z) (v1 v2 v3 v4 v5 v6 : Int32) (o : ((Int32 × Int32 × Int32) ⊕ (Int32 ⊕ Int32))) (h : jj_X6_proves_117 s v1 v2 v3 v4 v5 v6 = some o) (hk : dp_LK (fun x : (Int32 × Int32 × Int32) => dp_W 1 mX6_proves false h0 0 0 post 0 0 (9, [some (.inr (some 0)), some (.inl v1), some (.inl v2), some (.inl v3), some (.inl x.1), some (.inl x.2.1), some (.inl x.2.2), none, none], [], (hM s))) (dp_LK (fun o : Int32 => post (some (.inl o)) (hM s)) (fun x : Int32 => dp_W 1 mX6_proves false h0 0 0 post 0 0 (123, [none, none, none, none, none, some (.inl x), none, none, none], [], (hM s)))) o) : dp_W 1 mX6_proves false h0 0 0 post 0 0 (117, [some (.inr (some 0)), some (.inl v1), some (.inl v2), some (.inl v3), some (.inl v4), some (.inl v5), some (.inl v6), none, none], [], (hM s)) := by
  unfold jj_X6_proves_117 at h
  refine dp_blk okX6_proves 2 (S' := (9, [some (.inr (some 0)), some (.inl v1), some (.inl v2), some (.inl v3), some (.inl v4), some (.inl v5), some (.inl (v6 + (1 : Int32))), none, none], [], (hM s))) rfl ?_
  cases h
  exact hk
def jj_X6_proves_90 (s : dp_Z) (v1 v2 v3 v4 v5 v6 v7 t0 : Int32) : Option ((Int32 × Int32 × Int32) ⊕ (Int32 ⊕ Int32)) := (if t0 = (0 : Int32) then (some (.inr (.inl (0 : Int32)))) else (if (v4 &&& v7) = (0 : Int32) then (jj_X6_proves_117 s v1 v2 v3 (v4 ||| v7) (v5 + (1 : Int32)) v6) else (some (.inr (.inl (0 : Int32))))))
set_option maxHeartbeats 1000000 in
set_option maxRecDepth 20000 in
theorem wj_X6_proves_90 {post : Option dp_V → dp_H → Prop} {h0 : dp_H} (s : dp_Z) (v1 v2 v3 v4 v5 v6 v7 t0 : Int32) (o : ((Int32 × Int32 × Int32) ⊕ (Int32 ⊕ Int32))) (h : jj_X6_proves_90 s v1 v2 v3 v4 v5 v6 v7 t0 = some o) (hk : dp_LK (fun x : (Int32 × Int32 × Int32) => dp_W 1 mX6_proves false h0 0 0 post 0 0 (9, [some (.inr (some 0)), some (.inl v1), some (.inl v2), some (.inl v3), some (.inl x.1), some (.inl x.2.1), some (.inl x.2.2), none, none], [], (hM s))) (dp_LK (fun o : Int32 => post (some (.inl o)) (hM s)) (fun x : Int32 => dp_W 1 mX6_proves false h0 0 0 post 0 0 (123, [none, none, none, none, none, some (.inl x), none, none, none], [], (hM s)))) o) : dp_W 1 mX6_proves false h0 0 0 post 0 0 (90, [some (.inr (some 0)), some (.inl v1), some (.inl v2), some (.inl v3), some (.inl v4), some (.inl v5), some (.inl v6), some (.inl v7), none], [.inl t0], (hM s)) := by
  unfold jj_X6_proves_90 at h
  refine dp_blk okX6_proves 2 (S' := (94, [some (.inr (some 0)), some (.inl v1), some (.inl v2), some (.inl v3), some (.inl v4), some (.inl v5), some (.inl v6), some (.inl v7), some (.inl t0)], [.inl t0], (hM s))) rfl ?_
  refine dp_if0 okX6_proves rfl (fun (c : t0 = (0 : Int32)) => ?_) (fun (c : ¬ t0 = (0 : Int32)) => ?_)
  · have h := dp_ip c h
    refine dp_blk okX6_proves 1 (S' := (106, [some (.inr (some 0)), some (.inl v1), some (.inl v2), some (.inl v3), some (.inl v4), some (.inl v5), some (.inl v6), some (.inl v7), some (.inl t0)], [.inl (0 : Int32)], (hM s))) rfl ?_
    cases h
    exact dp_iret okX6_proves rfl rfl hk
  · have h := dp_ic c h
    refine dp_blk okX6_proves 3 (S' := (102, [some (.inr (some 0)), some (.inl v1), some (.inl v2), some (.inl v3), some (.inl v4), some (.inl v5), some (.inl v6), some (.inl v7), some (.inl t0)], [.inl (v4 &&& v7)], (hM s))) rfl ?_
    refine dp_if0 okX6_proves rfl (fun (c : (v4 &&& v7) = (0 : Int32)) => ?_) (fun (c : ¬ (v4 &&& v7) = (0 : Int32)) => ?_)
    · have h := dp_ip c h
      refine dp_blk okX6_proves 5 (S' := (117, [some (.inr (some 0)), some (.inl v1), some (.inl v2), some (.inl v3), some (.inl (v4 ||| v7)), some (.inl (v5 + (1 : Int32))), some (.inl v6), some (.inl v7), some (.inl t0)], [], (hM s))) rfl ?_
      refine dp_fg [true, true, true, true, true, true, true, false, false] (L' := [some (.inr (some 0)), some (.inl v1), some (.inl v2), some (.inl v3), some (.inl (v4 ||| v7)), some (.inl (v5 + (1 : Int32))), some (.inl v6), none, none]) rfl rfl ?_
      exact wj_X6_proves_117 s v1 v2 v3 (v4 ||| v7) (v5 + (1 : Int32)) v6 _ h hk
    · have h := dp_ic c h
      refine dp_blk okX6_proves 1 (S' := (106, [some (.inr (some 0)), some (.inl v1), some (.inl v2), some (.inl v3), some (.inl v4), some (.inl v5), some (.inl v6), some (.inl v7), some (.inl t0)], [.inl (0 : Int32)], (hM s))) rfl ?_
      cases h
      exact dp_iret okX6_proves rfl rfl hk
def jj_X6_proves_89 (s : dp_Z) (v1 v2 v3 v4 v5 v6 v7 : Int32) : Option ((Int32 × Int32 × Int32) ⊕ (Int32 ⊕ Int32)) := (jj_X6_proves_90 s v1 v2 v3 v4 v5 v6 v7 (0 : Int32))
set_option maxHeartbeats 1000000 in
set_option maxRecDepth 20000 in
theorem wj_X6_proves_89 {post : Option dp_V → dp_H → Prop} {h0 : dp_H} (s : dp_Z) (v1 v2 v3 v4 v5 v6 v7 : Int32) (o : ((Int32 × Int32 × Int32) ⊕ (Int32 ⊕ Int32))) (h : jj_X6_proves_89 s v1 v2 v3 v4 v5 v6 v7 = some o) (hk : dp_LK (fun x : (Int32 × Int32 × Int32) => dp_W 1 mX6_proves false h0 0 0 post 0 0 (9, [some (.inr (some 0)), some (.inl v1), some (.inl v2), some (.inl v3), some (.inl x.1), some (.inl x.2.1), some (.inl x.2.2), none, none], [], (hM s))) (dp_LK (fun o : Int32 => post (some (.inl o)) (hM s)) (fun x : Int32 => dp_W 1 mX6_proves false h0 0 0 post 0 0 (123, [none, none, none, none, none, some (.inl x), none, none, none], [], (hM s)))) o) : dp_W 1 mX6_proves false h0 0 0 post 0 0 (89, [some (.inr (some 0)), some (.inl v1), some (.inl v2), some (.inl v3), some (.inl v4), some (.inl v5), some (.inl v6), some (.inl v7), none], [], (hM s)) := by
  unfold jj_X6_proves_89 at h
  refine dp_blk okX6_proves 1 (S' := (90, [some (.inr (some 0)), some (.inl v1), some (.inl v2), some (.inl v3), some (.inl v4), some (.inl v5), some (.inl v6), some (.inl v7), none], [.inl (0 : Int32)], (hM s))) rfl ?_
  exact wj_X6_proves_90 s v1 v2 v3 v4 v5 v6 v7 (0 : Int32) _ h hk
def jb_X6_proves_9 (s : dp_Z) (v1 v2 v3 : Int32) (x : (Int32 × Int32 × Int32)) : Option ((Int32 × Int32 × Int32) ⊕ (Int32 ⊕ Int32)) := (if (s.1 13) ≤ x.2.2 then (some (.inr (.inr x.2.1))) else (dp_bd (j_X6_has v1 x.2.2) fun x1 => (if x1 = (0 : Int32) then (jj_X6_proves_117 s v1 v2 v3 x.1 x.2.1 x.2.2) else (dp_bd (j_X6_setOf s x.2.2) fun x2 => (dp_bd (some ((x2 &&& (((1 : Int32) <<< ((s.1 3) &&& 31)) ^^^ (-1 : Int32))) &&& (((1 : Int32) <<< (v2 &&& 31)) ^^^ (-1 : Int32)))) fun y3 => (if dp_inb x.2.2 8 = true then (if ((s.2 9) (x.2.2).toNatClampNeg) = v3 then (if dp_inb x.2.2 8 = true then (if dp_inb ((((12 : Int32) * x.2.2) + ((s.2 10) (x.2.2).toNatClampNeg)) - (1 : Int32)) 96 = true then (if ((s.2 11) (((((12 : Int32) * x.2.2) + ((s.2 10) (x.2.2).toNatClampNeg)) - (1 : Int32))).toNatClampNeg) = v2 then (jj_X6_proves_90 s v1 v2 v3 x.1 x.2.1 x.2.2 y3 (1 : Int32)) else (jj_X6_proves_89 s v1 v2 v3 x.1 x.2.1 x.2.2 y3)) else none) else none) else (jj_X6_proves_89 s v1 v2 v3 x.1 x.2.1 x.2.2 y3)) else none))))))
set_option maxHeartbeats 1000000 in
set_option maxRecDepth 20000 in
theorem wl_X6_proves_9 {post : Option dp_V → dp_H → Prop} {h0 : dp_H} (s : dp_Z) (v1 v2 v3 : Int32) (x : (Int32 × Int32 × Int32)) (o : ((Int32 × Int32 × Int32) ⊕ (Int32 ⊕ Int32))) (h : jb_X6_proves_9 s v1 v2 v3 x = some o) (hk : dp_LK (fun x : (Int32 × Int32 × Int32) => dp_W 1 mX6_proves false h0 0 0 post 0 0 (9, [some (.inr (some 0)), some (.inl v1), some (.inl v2), some (.inl v3), some (.inl x.1), some (.inl x.2.1), some (.inl x.2.2), none, none], [], (hM s))) (dp_LK (fun o : Int32 => post (some (.inl o)) (hM s)) (fun x : Int32 => dp_W 1 mX6_proves false h0 0 0 post 0 0 (123, [none, none, none, none, none, some (.inl x), none, none, none], [], (hM s)))) o) : dp_W 1 mX6_proves false h0 0 0 post 0 0 (9, [some (.inr (some 0)), some (.inl v1), some (.inl v2), some (.inl v3), some (.inl x.1), some (.inl x.2.1), some (.inl x.2.2), none, none], [], (hM s)) := by
  unfold jb_X6_proves_9 at h
  refine dp_blk okX6_proves 3 (S' := (15, [some (.inr (some 0)), some (.inl v1), some (.inl v2), some (.inl v3), some (.inl x.1), some (.inl x.2.1), some (.inl x.2.2), none, none], [.inl (s.1 13), .inl x.2.2], (hM s))) rfl ?_
  refine dp_if okX6_proves rfl (fun (c : (s.1 13) ≤ x.2.2) => ?_) (fun (c : ¬ (s.1 13) ≤ x.2.2) => ?_)
  · have h := dp_ip c h
    refine dp_blk okX6_proves 0 (S' := (123, [some (.inr (some 0)), some (.inl v1), some (.inl v2), some (.inl v3), some (.inl x.1), some (.inl x.2.1), some (.inl x.2.2), none, none], [], (hM s))) rfl ?_
    cases h
    refine dp_fg [false, false, false, false, false, true, false, false, false] (L' := [none, none, none, none, none, some (.inl x.2.1), none, none, none]) rfl rfl ?_
    exact hk
  · have h := dp_ic c h
    refine dp_blk okX6_proves 2 (S' := (21, [some (.inr (some 0)), some (.inl v1), some (.inl v2), some (.inl v3), some (.inl x.1), some (.inl x.2.1), some (.inl x.2.2), none, none], [.inl x.2.2, .inl v1], (hM s))) rfl ?_
    obtain ⟨x1, hc, h⟩ := dp_bd_inv h
    refine dp_cS okX6_proves okX6_has (as := [.inl v1, .inl x.2.2]) (r := []) rfl lk_NearLiarsModel_93 npX6_has (c_X6_has (hM s) v1 x.2.2 x1 hc) rfl (Nat.le_of_ble_eq_true rfl) (Nat.le_of_ble_eq_true rfl) (Nat.le_refl _) (Nat.le_refl _) ?_
    refine dp_blk okX6_proves 0 (S' := (24, [some (.inr (some 0)), some (.inl v1), some (.inl v2), some (.inl v3), some (.inl x.1), some (.inl x.2.1), some (.inl x.2.2), none, none], [.inl x1], (hM s))) rfl ?_
    refine dp_if0 okX6_proves rfl (fun (c : x1 = (0 : Int32)) => ?_) (fun (c : ¬ x1 = (0 : Int32)) => ?_)
    · have h := dp_ip c h
      refine dp_blk okX6_proves 0 (S' := (117, [some (.inr (some 0)), some (.inl v1), some (.inl v2), some (.inl v3), some (.inl x.1), some (.inl x.2.1), some (.inl x.2.2), none, none], [], (hM s))) rfl ?_
      exact wj_X6_proves_117 s v1 v2 v3 x.1 x.2.1 x.2.2 _ h hk
    · have h := dp_ic c h
      refine dp_blk okX6_proves 2 (S' := (30, [some (.inr (some 0)), some (.inl v1), some (.inl v2), some (.inl v3), some (.inl x.1), some (.inl x.2.1), some (.inl x.2.2), none, none], [.inl x.2.2, .inr (some 0)], (hM s))) rfl ?_
      obtain ⟨x2, hc, h⟩ := dp_bd_inv h
      refine dp_cV okX6_proves okX6_setOf (as := [.inl x.2.2]) (r := []) rfl lk_NearLiarsModel_174 npX6_setOf (c_X6_setOf s x.2.2 x2 hc) rfl rfl rfl rfl (Nat.le_of_ble_eq_true rfl) (Nat.le_of_ble_eq_true rfl) (Nat.le_refl _) (Nat.le_refl _) ?_
      obtain ⟨y3, hy, h⟩ := dp_bd_inv h
      have hy := Option.some.inj hy
      refine dp_blk okX6_proves 14 (S' := (50, [some (.inr (some 0)), some (.inl v1), some (.inl v2), some (.inl v3), some (.inl x.1), some (.inl x.2.1), some (.inl x.2.2), some (.inl y3), none], [], (hM s))) (by subst hy; rfl) ?_
      refine dp_blk okX6_proves 3 (S' := (56, [some (.inr (some 0)), some (.inl v1), some (.inl v2), some (.inl v3), some (.inl x.1), some (.inl x.2.1), some (.inl x.2.2), some (.inl y3), none], [.inl x.2.2, .inr (some 10)], (hM s))) rfl ?_
      obtain ⟨hi, h⟩ := dp_ite h
      refine dp_ial (g := (s.2 9)) okX6_proves rfl rfl (dp_inb_in hi) ?_
      refine dp_blk okX6_proves 1 (S' := (58, [some (.inr (some 0)), some (.inl v1), some (.inl v2), some (.inl v3), some (.inl x.1), some (.inl x.2.1), some (.inl x.2.2), some (.inl y3), none], [.inl v3, .inl ((s.2 9) (x.2.2).toNatClampNeg)], (hM s))) rfl ?_
      refine dp_if okX6_proves rfl (fun (c : ¬ ((s.2 9) (x.2.2).toNatClampNeg) = v3) => ?_) (fun (c : ((s.2 9) (x.2.2).toNatClampNeg) = v3) => ?_)
      · have h := dp_ic c h
        refine dp_blk okX6_proves 0 (S' := (89, [some (.inr (some 0)), some (.inl v1), some (.inl v2), some (.inl v3), some (.inl x.1), some (.inl x.2.1), some (.inl x.2.2), some (.inl y3), none], [], (hM s))) rfl ?_
        exact wj_X6_proves_89 s v1 v2 v3 x.1 x.2.1 x.2.2 y3 _ h hk
      · have h := dp_ip c h
        refine dp_blk okX6_proves 8 (S' := (76, [some (.inr (some 0)), some (.inl v1), some (.inl v2), some (.inl v3), some (.inl x.1), some (.inl x.2.1), some (.inl x.2.2), some (.inl y3), none], [.inl x.2.2, .inr (some 11), .inl ((12 : Int32) * x.2.2), .inr (some 12)], (hM s))) rfl ?_
        obtain ⟨hi, h⟩ := dp_ite h
        refine dp_ial (g := (s.2 10)) okX6_proves rfl rfl (dp_inb_in hi) ?_
        refine dp_blk okX6_proves 3 (S' := (80, [some (.inr (some 0)), some (.inl v1), some (.inl v2), some (.inl v3), some (.inl x.1), some (.inl x.2.1), some (.inl x.2.2), some (.inl y3), none], [.inl ((((12 : Int32) * x.2.2) + ((s.2 10) (x.2.2).toNatClampNeg)) - (1 : Int32)), .inr (some 12)], (hM s))) rfl ?_
        obtain ⟨hi, h⟩ := dp_ite h
        refine dp_ial (g := (s.2 11)) okX6_proves rfl rfl (dp_inb_in hi) ?_
        refine dp_blk okX6_proves 1 (S' := (82, [some (.inr (some 0)), some (.inl v1), some (.inl v2), some (.inl v3), some (.inl x.1), some (.inl x.2.1), some (.inl x.2.2), some (.inl y3), none], [.inl v2, .inl ((s.2 11) (((((12 : Int32) * x.2.2) + ((s.2 10) (x.2.2).toNatClampNeg)) - (1 : Int32))).toNatClampNeg)], (hM s))) rfl ?_
        refine dp_if okX6_proves rfl (fun (c : ¬ ((s.2 11) (((((12 : Int32) * x.2.2) + ((s.2 10) (x.2.2).toNatClampNeg)) - (1 : Int32))).toNatClampNeg) = v2) => ?_) (fun (c : ((s.2 11) (((((12 : Int32) * x.2.2) + ((s.2 10) (x.2.2).toNatClampNeg)) - (1 : Int32))).toNatClampNeg) = v2) => ?_)
        · have h := dp_ic c h
          refine dp_blk okX6_proves 0 (S' := (89, [some (.inr (some 0)), some (.inl v1), some (.inl v2), some (.inl v3), some (.inl x.1), some (.inl x.2.1), some (.inl x.2.2), some (.inl y3), none], [], (hM s))) rfl ?_
          exact wj_X6_proves_89 s v1 v2 v3 x.1 x.2.1 x.2.2 y3 _ h hk
        · have h := dp_ip c h
          refine dp_blk okX6_proves 2 (S' := (90, [some (.inr (some 0)), some (.inl v1), some (.inl v2), some (.inl v3), some (.inl x.1), some (.inl x.2.1), some (.inl x.2.2), some (.inl y3), none], [.inl (1 : Int32)], (hM s))) rfl ?_
          exact wj_X6_proves_90 s v1 v2 v3 x.1 x.2.1 x.2.2 y3 (1 : Int32) _ h hk
def j_X6_proves (s : dp_Z) (v1 v2 v3 : Int32) : Option Int32 := (dp_bd (dp_loop (jb_X6_proves_9 s v1 v2 v3) dp_F ((0 : Int32), (0 : Int32), (0 : Int32))) fun x => Sum.elim (fun x4 => (some x4)) (fun x4 => (some x4)) x)
set_option maxHeartbeats 1000000 in
set_option maxRecDepth 20000 in
theorem we_X6_proves {post : Option dp_V → dp_H → Prop} {h0 : dp_H} (s : dp_Z) (v1 v2 v3 : Int32) (o : Int32) (h : j_X6_proves s v1 v2 v3 = some o) (hk : post (some (.inl o)) (hM s)) : dp_W 1 mX6_proves false h0 0 0 post 0 0 (0, [some (.inr (some 0)), some (.inl v1), some (.inl v2), some (.inl v3), none, none, none, none, none], [], (hM s)) := by
  unfold j_X6_proves at h
  refine dp_blk okX6_proves 6 (S' := (9, [some (.inr (some 0)), some (.inl v1), some (.inl v2), some (.inl v3), some (.inl (0 : Int32)), some (.inl (0 : Int32)), some (.inl (0 : Int32)), none, none], [], (hM s))) rfl ?_
  obtain ⟨x4, hl, h⟩ := dp_bd_inv h
  refine dp_loopW (wl_X6_proves_9 s v1 v2 v3) dp_F ((0 : Int32), (0 : Int32), (0 : Int32)) x4 hl ?_
  rcases x4 with x4 | x4
  · simp only [Sum.elim_inl] at h
    cases h
    exact hk
  · simp only [Sum.elim_inr] at h
    show dp_W 1 mX6_proves false h0 0 0 post 0 0 (123, [none, none, none, none, none, some (.inl x4), none, none, none], [], (hM s))
    refine dp_blk okX6_proves 1 (S' := (125, [none, none, none, none, none, some (.inl x4), none, none, none], [.inl x4], (hM s))) rfl ?_
    cases h
    exact dp_iret okX6_proves rfl rfl hk
theorem c_X6_proves (s : dp_Z) (v1 v2 v3 : Int32) (o : Int32) (h : j_X6_proves s v1 v2 v3 = some o) : dp_C 1 mX6_proves false [.inr (some 0), .inl v1, .inl v2, .inl v3] (hM s) 0 0 (dp_R (some (.inl o)) (hM s)) := dp_C_of okX6_proves [some (.inr (some 0)), some (.inl v1), some (.inl v2), some (.inl v3), none, none, none, none, none] rfl (Nat.le_of_ble_eq_true rfl) (we_X6_proves s v1 v2 v3 o h ⟨rfl, rfl⟩)
def jj_X6_proofOf_38 (s : dp_Z) (v1 v2 v4 t0 : Int32) : Option ((Int32 × Int32) ⊕ Int32) := (some (.inl (t0, (v4 + (1 : Int32)))))
set_option maxHeartbeats 1000000 in
set_option maxRecDepth 20000 in
theorem wj_X6_proofOf_38 {post : Option dp_V → dp_H → Prop} {h0 : dp_H} (s : dp_Z) (v1 v2 v4 t0 : Int32) (o : ((Int32 × Int32) ⊕ Int32)) (h : jj_X6_proofOf_38 s v1 v2 v4 t0 = some o) (hk : dp_LK (fun x : (Int32 × Int32) => dp_W 2 mX6_proofOf false h0 0 0 post 0 0 (5, [some (.inr (some 0)), some (.inl v1), some (.inl v2), some (.inl x.1), some (.inl x.2), none], [], (hM s))) (fun x : Int32 => dp_W 2 mX6_proofOf false h0 0 0 post 0 0 (45, [none, none, none, some (.inl x), none, none], [], (hM s))) o) : dp_W 2 mX6_proofOf false h0 0 0 post 0 0 (38, [some (.inr (some 0)), some (.inl v1), some (.inl v2), none, some (.inl v4), none], [.inl t0], (hM s)) := by
  unfold jj_X6_proofOf_38 at h
  refine dp_blk okX6_proofOf 3 (S' := (5, [some (.inr (some 0)), some (.inl v1), some (.inl v2), some (.inl t0), some (.inl (v4 + (1 : Int32))), none], [], (hM s))) rfl ?_
  cases h
  exact hk
def jb_X6_proofOf_5 (s : dp_Z) (v1 v2 : Int32) (x : (Int32 × Int32)) : Option ((Int32 × Int32) ⊕ Int32) := (if ((1 : Int32) <<< ((s.1 13) &&& 31)) ≤ x.2 then (some (.inr x.1)) else (dp_bd (j_X6_proves s x.2 v1 v2) fun x1 => (if x1 ≤ x.1 then (jj_X6_proofOf_38 s v1 v2 x.2 x.1) else (jj_X6_proofOf_38 s v1 v2 x.2 x1))))
set_option maxHeartbeats 1000000 in
set_option maxRecDepth 20000 in
theorem wl_X6_proofOf_5 {post : Option dp_V → dp_H → Prop} {h0 : dp_H} (s : dp_Z) (v1 v2 : Int32) (x : (Int32 × Int32)) (o : ((Int32 × Int32) ⊕ Int32)) (h : jb_X6_proofOf_5 s v1 v2 x = some o) (hk : dp_LK (fun x : (Int32 × Int32) => dp_W 2 mX6_proofOf false h0 0 0 post 0 0 (5, [some (.inr (some 0)), some (.inl v1), some (.inl v2), some (.inl x.1), some (.inl x.2), none], [], (hM s))) (fun x : Int32 => dp_W 2 mX6_proofOf false h0 0 0 post 0 0 (45, [none, none, none, some (.inl x), none, none], [], (hM s))) o) : dp_W 2 mX6_proofOf false h0 0 0 post 0 0 (5, [some (.inr (some 0)), some (.inl v1), some (.inl v2), some (.inl x.1), some (.inl x.2), none], [], (hM s)) := by
  unfold jb_X6_proofOf_5 at h
  refine dp_blk okX6_proofOf 5 (S' := (13, [some (.inr (some 0)), some (.inl v1), some (.inl v2), some (.inl x.1), some (.inl x.2), none], [.inl ((1 : Int32) <<< ((s.1 13) &&& 31)), .inl x.2], (hM s))) rfl ?_
  refine dp_if okX6_proofOf rfl (fun (c : ((1 : Int32) <<< ((s.1 13) &&& 31)) ≤ x.2) => ?_) (fun (c : ¬ ((1 : Int32) <<< ((s.1 13) &&& 31)) ≤ x.2) => ?_)
  · have h := dp_ip c h
    refine dp_blk okX6_proofOf 0 (S' := (45, [some (.inr (some 0)), some (.inl v1), some (.inl v2), some (.inl x.1), some (.inl x.2), none], [], (hM s))) rfl ?_
    cases h
    refine dp_fg [false, false, false, true, false, false] (L' := [none, none, none, some (.inl x.1), none, none]) rfl rfl ?_
    exact hk
  · have h := dp_ic c h
    refine dp_blk okX6_proofOf 4 (S' := (21, [some (.inr (some 0)), some (.inl v1), some (.inl v2), some (.inl x.1), some (.inl x.2), none], [.inl v2, .inl v1, .inl x.2, .inr (some 0)], (hM s))) rfl ?_
    obtain ⟨x1, hc, h⟩ := dp_bd_inv h
    refine dp_cV okX6_proofOf okX6_proves (as := [.inl x.2, .inl v1, .inl v2]) (r := []) rfl lk_NearLiarsModel_177 npX6_proves (c_X6_proves s x.2 v1 v2 x1 hc) rfl rfl rfl rfl (Nat.le_of_ble_eq_true rfl) (Nat.le_of_ble_eq_true rfl) (Nat.le_refl _) (Nat.le_refl _) ?_
    refine dp_blk okX6_proofOf 3 (S' := (29, [some (.inr (some 0)), some (.inl v1), some (.inl v2), some (.inl x.1), some (.inl x.2), some (.inl x1)], [.inl x.1, .inl x1], (hM s))) rfl ?_
    refine dp_if okX6_proofOf rfl (fun (c : x1 ≤ x.1) => ?_) (fun (c : ¬ x1 ≤ x.1) => ?_)
    · have h := dp_ip c h
      refine dp_blk okX6_proofOf 1 (S' := (38, [some (.inr (some 0)), some (.inl v1), some (.inl v2), some (.inl x.1), some (.inl x.2), some (.inl x1)], [.inl x.1], (hM s))) rfl ?_
      refine dp_fg [true, true, true, false, true, false] (L' := [some (.inr (some 0)), some (.inl v1), some (.inl v2), none, some (.inl x.2), none]) rfl rfl ?_
      exact wj_X6_proofOf_38 s v1 v2 x.2 x.1 _ h hk
    · have h := dp_ic c h
      refine dp_blk okX6_proofOf 2 (S' := (38, [some (.inr (some 0)), some (.inl v1), some (.inl v2), some (.inl x.1), some (.inl x.2), some (.inl x1)], [.inl x1], (hM s))) rfl ?_
      refine dp_fg [true, true, true, false, true, false] (L' := [some (.inr (some 0)), some (.inl v1), some (.inl v2), none, some (.inl x.2), none]) rfl rfl ?_
      exact wj_X6_proofOf_38 s v1 v2 x.2 x1 _ h hk
def j_X6_proofOf (s : dp_Z) (v1 v2 : Int32) : Option Int32 := (dp_bd (dp_loop (jb_X6_proofOf_5 s v1 v2) dp_F ((0 : Int32), (0 : Int32))) fun x2 => (some x2))
set_option maxHeartbeats 1000000 in
set_option maxRecDepth 20000 in
theorem we_X6_proofOf {post : Option dp_V → dp_H → Prop} {h0 : dp_H} (s : dp_Z) (v1 v2 : Int32) (o : Int32) (h : j_X6_proofOf s v1 v2 = some o) (hk : post (some (.inl o)) (hM s)) : dp_W 2 mX6_proofOf false h0 0 0 post 0 0 (0, [some (.inr (some 0)), some (.inl v1), some (.inl v2), none, none, none], [], (hM s)) := by
  unfold j_X6_proofOf at h
  refine dp_blk okX6_proofOf 4 (S' := (5, [some (.inr (some 0)), some (.inl v1), some (.inl v2), some (.inl (0 : Int32)), some (.inl (0 : Int32)), none], [], (hM s))) rfl ?_
  obtain ⟨x2, hl, h⟩ := dp_bd_inv h
  refine dp_loopW (wl_X6_proofOf_5 s v1 v2) dp_F ((0 : Int32), (0 : Int32)) x2 hl ?_
  show dp_W 2 mX6_proofOf false h0 0 0 post 0 0 (45, [none, none, none, some (.inl x2), none, none], [], (hM s))
  refine dp_blk okX6_proofOf 1 (S' := (46, [none, none, none, some (.inl x2), none, none], [.inl x2], (hM s))) rfl ?_
  cases h
  exact dp_iret okX6_proofOf rfl rfl hk
theorem c_X6_proofOf (s : dp_Z) (v1 v2 : Int32) (o : Int32) (h : j_X6_proofOf s v1 v2 = some o) : dp_C 2 mX6_proofOf false [.inr (some 0), .inl v1, .inl v2] (hM s) 0 0 (dp_R (some (.inl o)) (hM s)) := dp_C_of okX6_proofOf [some (.inr (some 0)), some (.inl v1), some (.inl v2), none, none, none] rfl (Nat.le_of_ble_eq_true rfl) (we_X6_proofOf s v1 v2 o h ⟨rfl, rfl⟩)
def j_X6_proof (s : dp_Z) (v1 v2 : Int32) : Option Int32 := (dp_bd (j_X6_isNode s v1) fun x1 => (if x1 = (0 : Int32) then (some (-1 : Int32)) else (dp_bd (j_X6_within v2 (0 : Int32) (3 : Int32)) fun x2 => (if x2 = (0 : Int32) then (some (-2 : Int32)) else (dp_bd (j_X6_proofOf s v1 v2) fun x3 => (some x3))))))
set_option maxHeartbeats 1000000 in
set_option maxRecDepth 20000 in
theorem we_X6_proof {post : Option dp_V → dp_H → Prop} {h0 : dp_H} (s : dp_Z) (v1 v2 : Int32) (o : Int32) (h : j_X6_proof s v1 v2 = some o) (hk : post (some (.inl o)) (hM s)) : dp_W 3 mX6_proof false h0 0 0 post 0 0 (0, [some (.inr (some 0)), some (.inl v1), some (.inl v2)], [], (hM s)) := by
  unfold j_X6_proof at h
  refine dp_blk okX6_proof 2 (S' := (2, [some (.inr (some 0)), some (.inl v1), some (.inl v2)], [.inl v1, .inr (some 0)], (hM s))) rfl ?_
  obtain ⟨x1, hc, h⟩ := dp_bd_inv h
  refine dp_cV okX6_proof okX6_isNode (as := [.inl v1]) (r := []) rfl lk_NearLiarsModel_86 npX6_isNode (c_X6_isNode s v1 x1 hc) rfl rfl rfl rfl (Nat.le_of_ble_eq_true rfl) (Nat.le_of_ble_eq_true rfl) (Nat.le_refl _) (Nat.le_refl _) ?_
  refine dp_blk okX6_proof 0 (S' := (5, [some (.inr (some 0)), some (.inl v1), some (.inl v2)], [.inl x1], (hM s))) rfl ?_
  refine dp_if0 okX6_proof rfl (fun (c : ¬ x1 = (0 : Int32)) => ?_) (fun (c : x1 = (0 : Int32)) => ?_)
  · have h := dp_ic c h
    refine dp_blk okX6_proof 3 (S' := (13, [some (.inr (some 0)), some (.inl v1), some (.inl v2)], [.inl (3 : Int32), .inl (0 : Int32), .inl v2], (hM s))) rfl ?_
    obtain ⟨x2, hc, h⟩ := dp_bd_inv h
    refine dp_cS okX6_proof okX6_within (as := [.inl v2, .inl (0 : Int32), .inl (3 : Int32)]) (r := []) rfl lk_NearLiarsModel_63 npX6_within (c_X6_within (hM s) v2 (0 : Int32) (3 : Int32) x2 hc) rfl (Nat.le_of_ble_eq_true rfl) (Nat.le_of_ble_eq_true rfl) (Nat.le_refl _) (Nat.le_refl _) ?_
    refine dp_blk okX6_proof 0 (S' := (16, [some (.inr (some 0)), some (.inl v1), some (.inl v2)], [.inl x2], (hM s))) rfl ?_
    refine dp_if0 okX6_proof rfl (fun (c : x2 = (0 : Int32)) => ?_) (fun (c : ¬ x2 = (0 : Int32)) => ?_)
    · have h := dp_ip c h
      refine dp_blk okX6_proof 1 (S' := (30, [some (.inr (some 0)), some (.inl v1), some (.inl v2)], [.inl (-2 : Int32)], (hM s))) rfl ?_
      cases h
      exact dp_iret okX6_proof rfl rfl hk
    · have h := dp_ic c h
      refine dp_blk okX6_proof 3 (S' := (22, [some (.inr (some 0)), some (.inl v1), some (.inl v2)], [.inl v2, .inl v1, .inr (some 0)], (hM s))) rfl ?_
      obtain ⟨x3, hc, h⟩ := dp_bd_inv h
      refine dp_cV okX6_proof okX6_proofOf (as := [.inl v1, .inl v2]) (r := []) rfl lk_NearLiarsModel_180 npX6_proofOf (c_X6_proofOf s v1 v2 x3 hc) rfl rfl rfl rfl (Nat.le_of_ble_eq_true rfl) (Nat.le_of_ble_eq_true rfl) (Nat.le_refl _) (Nat.le_refl _) ?_
      refine dp_blk okX6_proof 1 (S' := (30, [some (.inr (some 0)), some (.inl v1), some (.inl v2)], [.inl x3], (hM s))) rfl ?_
      cases h
      exact dp_iret okX6_proof rfl rfl hk
  · have h := dp_ip c h
    refine dp_blk okX6_proof 1 (S' := (9, [some (.inr (some 0)), some (.inl v1), some (.inl v2)], [.inl (-1 : Int32)], (hM s))) rfl ?_
    cases h
    exact dp_iret okX6_proof rfl rfl hk
theorem c_X6_proof (s : dp_Z) (v1 v2 : Int32) (o : Int32) (h : j_X6_proof s v1 v2 = some o) : dp_C 3 mX6_proof false [.inr (some 0), .inl v1, .inl v2] (hM s) 0 0 (dp_R (some (.inl o)) (hM s)) := dp_C_of okX6_proof [some (.inr (some 0)), some (.inl v1), some (.inl v2)] rfl (Nat.le_of_ble_eq_true rfl) (we_X6_proof s v1 v2 o h ⟨rfl, rfl⟩)
def jj_X6_believes_69 (s : dp_Z) (v1 v2 v4 t0 : Int32) : Option ((Int32 × Int32 × Int32) ⊕ (Int32 × Int32)) := (some (.inl (v2, t0, (v4 + (1 : Int32)))))
set_option maxHeartbeats 1000000 in
set_option maxRecDepth 20000 in
theorem wj_X6_believes_69 {post : Option dp_V → dp_H → Prop} {h0 : dp_H} (s : dp_Z) (v1 v2 v4 t0 : Int32) (o : ((Int32 × Int32 × Int32) ⊕ (Int32 × Int32))) (h : jj_X6_believes_69 s v1 v2 v4 t0 = some o) (hk : dp_LK (fun x : (Int32 × Int32 × Int32) => dp_W 3 mX6_believes false h0 0 0 post 0 0 (18, [some (.inr (some 0)), some (.inl v1), some (.inl x.1), some (.inl x.2.1), some (.inl x.2.2), none], [], (hM s))) (fun x : (Int32 × Int32) => dp_W 3 mX6_believes false h0 0 0 post 0 0 (76, [some (.inr (some 0)), none, some (.inl x.1), some (.inl x.2), none, none], [], (hM s))) o) : dp_W 3 mX6_believes false h0 0 0 post 0 0 (69, [some (.inr (some 0)), some (.inl v1), some (.inl v2), none, some (.inl v4), none], [.inl t0], (hM s)) := by
  unfold jj_X6_believes_69 at h
  refine dp_blk okX6_believes 3 (S' := (18, [some (.inr (some 0)), some (.inl v1), some (.inl v2), some (.inl t0), some (.inl (v4 + (1 : Int32))), none], [], (hM s))) rfl ?_
  cases h
  exact hk
def jj_X6_believes_56 (s : dp_Z) (v1 v3 v4 v5 t0 : Int32) : Option ((Int32 × Int32 × Int32) ⊕ (Int32 × Int32)) := (if v5 ≤ v3 then (jj_X6_believes_69 s v1 t0 v4 v3) else (jj_X6_believes_69 s v1 t0 v4 v5))
set_option maxHeartbeats 1000000 in
set_option maxRecDepth 20000 in
theorem wj_X6_believes_56 {post : Option dp_V → dp_H → Prop} {h0 : dp_H} (s : dp_Z) (v1 v3 v4 v5 t0 : Int32) (o : ((Int32 × Int32 × Int32) ⊕ (Int32 × Int32))) (h : jj_X6_believes_56 s v1 v3 v4 v5 t0 = some o) (hk : dp_LK (fun x : (Int32 × Int32 × Int32) => dp_W 3 mX6_believes false h0 0 0 post 0 0 (18, [some (.inr (some 0)), some (.inl v1), some (.inl x.1), some (.inl x.2.1), some (.inl x.2.2), none], [], (hM s))) (fun x : (Int32 × Int32) => dp_W 3 mX6_believes false h0 0 0 post 0 0 (76, [some (.inr (some 0)), none, some (.inl x.1), some (.inl x.2), none, none], [], (hM s))) o) : dp_W 3 mX6_believes false h0 0 0 post 0 0 (56, [some (.inr (some 0)), some (.inl v1), none, some (.inl v3), some (.inl v4), some (.inl v5)], [.inl t0], (hM s)) := by
  unfold jj_X6_believes_56 at h
  refine dp_blk okX6_believes 3 (S' := (60, [some (.inr (some 0)), some (.inl v1), some (.inl t0), some (.inl v3), some (.inl v4), some (.inl v5)], [.inl v3, .inl v5], (hM s))) rfl ?_
  refine dp_if okX6_believes rfl (fun (c : v5 ≤ v3) => ?_) (fun (c : ¬ v5 ≤ v3) => ?_)
  · have h := dp_ip c h
    refine dp_blk okX6_believes 1 (S' := (69, [some (.inr (some 0)), some (.inl v1), some (.inl t0), some (.inl v3), some (.inl v4), some (.inl v5)], [.inl v3], (hM s))) rfl ?_
    refine dp_fg [true, true, true, false, true, false] (L' := [some (.inr (some 0)), some (.inl v1), some (.inl t0), none, some (.inl v4), none]) rfl rfl ?_
    exact wj_X6_believes_69 s v1 t0 v4 v3 _ h hk
  · have h := dp_ic c h
    refine dp_blk okX6_believes 2 (S' := (69, [some (.inr (some 0)), some (.inl v1), some (.inl t0), some (.inl v3), some (.inl v4), some (.inl v5)], [.inl v5], (hM s))) rfl ?_
    refine dp_fg [true, true, true, false, true, false] (L' := [some (.inr (some 0)), some (.inl v1), some (.inl t0), none, some (.inl v4), none]) rfl rfl ?_
    exact wj_X6_believes_69 s v1 t0 v4 v5 _ h hk
def jb_X6_believes_18 (s : dp_Z) (v1 : Int32) (x : (Int32 × Int32 × Int32)) : Option ((Int32 × Int32 × Int32) ⊕ (Int32 × Int32)) := (if (4 : Int32) ≤ x.2.2 then (some (.inr (x.1, x.2.1))) else (dp_bd (j_X6_proofOf s v1 x.2.2) fun x2 => (if x2 ≤ x.2.1 then (if x2 = x.2.1 then (jj_X6_believes_56 s v1 x.2.1 x.2.2 x2 (-9 : Int32)) else (jj_X6_believes_56 s v1 x.2.1 x.2.2 x2 x.1)) else (jj_X6_believes_56 s v1 x.2.1 x.2.2 x2 x.2.2))))
set_option maxHeartbeats 1000000 in
set_option maxRecDepth 20000 in
theorem wl_X6_believes_18 {post : Option dp_V → dp_H → Prop} {h0 : dp_H} (s : dp_Z) (v1 : Int32) (x : (Int32 × Int32 × Int32)) (o : ((Int32 × Int32 × Int32) ⊕ (Int32 × Int32))) (h : jb_X6_believes_18 s v1 x = some o) (hk : dp_LK (fun x : (Int32 × Int32 × Int32) => dp_W 3 mX6_believes false h0 0 0 post 0 0 (18, [some (.inr (some 0)), some (.inl v1), some (.inl x.1), some (.inl x.2.1), some (.inl x.2.2), none], [], (hM s))) (fun x : (Int32 × Int32) => dp_W 3 mX6_believes false h0 0 0 post 0 0 (76, [some (.inr (some 0)), none, some (.inl x.1), some (.inl x.2), none, none], [], (hM s))) o) : dp_W 3 mX6_believes false h0 0 0 post 0 0 (18, [some (.inr (some 0)), some (.inl v1), some (.inl x.1), some (.inl x.2.1), some (.inl x.2.2), none], [], (hM s)) := by
  unfold jb_X6_believes_18 at h
  refine dp_blk okX6_believes 2 (S' := (21, [some (.inr (some 0)), some (.inl v1), some (.inl x.1), some (.inl x.2.1), some (.inl x.2.2), none], [.inl (4 : Int32), .inl x.2.2], (hM s))) rfl ?_
  refine dp_if okX6_believes rfl (fun (c : (4 : Int32) ≤ x.2.2) => ?_) (fun (c : ¬ (4 : Int32) ≤ x.2.2) => ?_)
  · have h := dp_ip c h
    refine dp_blk okX6_believes 0 (S' := (76, [some (.inr (some 0)), some (.inl v1), some (.inl x.1), some (.inl x.2.1), some (.inl x.2.2), none], [], (hM s))) rfl ?_
    cases h
    refine dp_fg [true, false, true, true, false, false] (L' := [some (.inr (some 0)), none, some (.inl x.1), some (.inl x.2.1), none, none]) rfl rfl ?_
    exact hk
  · have h := dp_ic c h
    refine dp_blk okX6_believes 3 (S' := (28, [some (.inr (some 0)), some (.inl v1), some (.inl x.1), some (.inl x.2.1), some (.inl x.2.2), none], [.inl x.2.2, .inl v1, .inr (some 0)], (hM s))) rfl ?_
    obtain ⟨x2, hc, h⟩ := dp_bd_inv h
    refine dp_cV okX6_believes okX6_proofOf (as := [.inl v1, .inl x.2.2]) (r := []) rfl lk_NearLiarsModel_180 npX6_proofOf (c_X6_proofOf s v1 x.2.2 x2 hc) rfl rfl rfl rfl (Nat.le_of_ble_eq_true rfl) (Nat.le_of_ble_eq_true rfl) (Nat.le_refl _) (Nat.le_refl _) ?_
    refine dp_blk okX6_believes 3 (S' := (36, [some (.inr (some 0)), some (.inl v1), some (.inl x.1), some (.inl x.2.1), some (.inl x.2.2), some (.inl x2)], [.inl x.2.1, .inl x2], (hM s))) rfl ?_
    refine dp_if okX6_believes rfl (fun (c : x2 ≤ x.2.1) => ?_) (fun (c : ¬ x2 ≤ x.2.1) => ?_)
    · have h := dp_ip c h
      refine dp_blk okX6_believes 2 (S' := (47, [some (.inr (some 0)), some (.inl v1), some (.inl x.1), some (.inl x.2.1), some (.inl x.2.2), some (.inl x2)], [.inl x.2.1, .inl x2], (hM s))) rfl ?_
      refine dp_if okX6_believes rfl (fun (c : ¬ x2 = x.2.1) => ?_) (fun (c : x2 = x.2.1) => ?_)
      · have h := dp_ic c h
        refine dp_blk okX6_believes 1 (S' := (56, [some (.inr (some 0)), some (.inl v1), some (.inl x.1), some (.inl x.2.1), some (.inl x.2.2), some (.inl x2)], [.inl x.1], (hM s))) rfl ?_
        refine dp_fg [true, true, false, true, true, true] (L' := [some (.inr (some 0)), some (.inl v1), none, some (.inl x.2.1), some (.inl x.2.2), some (.inl x2)]) rfl rfl ?_
        exact wj_X6_believes_56 s v1 x.2.1 x.2.2 x2 x.1 _ h hk
      · have h := dp_ip c h
        refine dp_blk okX6_believes 2 (S' := (56, [some (.inr (some 0)), some (.inl v1), some (.inl x.1), some (.inl x.2.1), some (.inl x.2.2), some (.inl x2)], [.inl (-9 : Int32)], (hM s))) rfl ?_
        refine dp_fg [true, true, false, true, true, true] (L' := [some (.inr (some 0)), some (.inl v1), none, some (.inl x.2.1), some (.inl x.2.2), some (.inl x2)]) rfl rfl ?_
        exact wj_X6_believes_56 s v1 x.2.1 x.2.2 x2 (-9 : Int32) _ h hk
    · have h := dp_ic c h
      refine dp_blk okX6_believes 2 (S' := (56, [some (.inr (some 0)), some (.inl v1), some (.inl x.1), some (.inl x.2.1), some (.inl x.2.2), some (.inl x2)], [.inl x.2.2], (hM s))) rfl ?_
      refine dp_fg [true, true, false, true, true, true] (L' := [some (.inr (some 0)), some (.inl v1), none, some (.inl x.2.1), some (.inl x.2.2), some (.inl x2)]) rfl rfl ?_
      exact wj_X6_believes_56 s v1 x.2.1 x.2.2 x2 x.2.2 _ h hk
def j_X6_believes (s : dp_Z) (v1 : Int32) : Option Int32 := (dp_bd (j_X6_isNode s v1) fun x1 => (if x1 = (0 : Int32) then (some (-1 : Int32)) else (dp_bd (dp_loop (jb_X6_believes_18 s v1) dp_F ((-9 : Int32), (0 : Int32), (0 : Int32))) fun x3 => (if x3.2 < (s.1 5) then (some (-9 : Int32)) else (some x3.1)))))
set_option maxHeartbeats 1000000 in
set_option maxRecDepth 20000 in
theorem we_X6_believes {post : Option dp_V → dp_H → Prop} {h0 : dp_H} (s : dp_Z) (v1 : Int32) (o : Int32) (h : j_X6_believes s v1 = some o) (hk : post (some (.inl o)) (hM s)) : dp_W 3 mX6_believes false h0 0 0 post 0 0 (0, [some (.inr (some 0)), some (.inl v1), none, none, none, none], [], (hM s)) := by
  unfold j_X6_believes at h
  refine dp_blk okX6_believes 2 (S' := (2, [some (.inr (some 0)), some (.inl v1), none, none, none, none], [.inl v1, .inr (some 0)], (hM s))) rfl ?_
  obtain ⟨x1, hc, h⟩ := dp_bd_inv h
  refine dp_cV okX6_believes okX6_isNode (as := [.inl v1]) (r := []) rfl lk_NearLiarsModel_86 npX6_isNode (c_X6_isNode s v1 x1 hc) rfl rfl rfl rfl (Nat.le_of_ble_eq_true rfl) (Nat.le_of_ble_eq_true rfl) (Nat.le_refl _) (Nat.le_refl _) ?_
  refine dp_blk okX6_believes 0 (S' := (5, [some (.inr (some 0)), some (.inl v1), none, none, none, none], [.inl x1], (hM s))) rfl ?_
  refine dp_if0 okX6_believes rfl (fun (c : ¬ x1 = (0 : Int32)) => ?_) (fun (c : x1 = (0 : Int32)) => ?_)
  · have h := dp_ic c h
    refine dp_blk okX6_believes 6 (S' := (18, [some (.inr (some 0)), some (.inl v1), some (.inl (-9 : Int32)), some (.inl (0 : Int32)), some (.inl (0 : Int32)), none], [], (hM s))) rfl ?_
    obtain ⟨x3, hl, h⟩ := dp_bd_inv h
    refine dp_loopW (wl_X6_believes_18 s v1) dp_F ((-9 : Int32), (0 : Int32), (0 : Int32)) x3 hl ?_
    show dp_W 3 mX6_believes false h0 0 0 post 0 0 (76, [some (.inr (some 0)), none, some (.inl x3.1), some (.inl x3.2), none, none], [], (hM s))
    refine dp_blk okX6_believes 3 (S' := (81, [some (.inr (some 0)), none, some (.inl x3.1), some (.inl x3.2), none, none], [.inl (s.1 5), .inl x3.2], (hM s))) rfl ?_
    refine dp_if okX6_believes rfl (fun (c : x3.2 < (s.1 5)) => ?_) (fun (c : ¬ x3.2 < (s.1 5)) => ?_)
    · have h := dp_ip c h
      refine dp_blk okX6_believes 1 (S' := (90, [some (.inr (some 0)), none, some (.inl x3.1), some (.inl x3.2), none, none], [.inl (-9 : Int32)], (hM s))) rfl ?_
      cases h
      exact dp_iret okX6_believes rfl rfl hk
    · have h := dp_ic c h
      refine dp_blk okX6_believes 2 (S' := (90, [some (.inr (some 0)), none, some (.inl x3.1), some (.inl x3.2), none, none], [.inl x3.1], (hM s))) rfl ?_
      cases h
      exact dp_iret okX6_believes rfl rfl hk
  · have h := dp_ip c h
    refine dp_blk okX6_believes 1 (S' := (9, [some (.inr (some 0)), some (.inl v1), none, none, none, none], [.inl (-1 : Int32)], (hM s))) rfl ?_
    cases h
    exact dp_iret okX6_believes rfl rfl hk
theorem c_X6_believes (s : dp_Z) (v1 : Int32) (o : Int32) (h : j_X6_believes s v1 = some o) : dp_C 3 mX6_believes false [.inr (some 0), .inl v1] (hM s) 0 0 (dp_R (some (.inl o)) (hM s)) := dp_C_of okX6_believes [some (.inr (some 0)), some (.inl v1), none, none, none, none] rfl (Nat.le_of_ble_eq_true rfl) (we_X6_believes s v1 o h ⟨rfl, rfl⟩)
def jb_X6_twos_4 (s : dp_Z) (x : (Int32 × Int32)) : Option ((Int32 × Int32) ⊕ Int32) := (if (s.1 0) ≤ x.2 then (some (.inr x.1)) else (if dp_inb x.2 12 = true then (dp_bd (j_X6_size ((s.2 0) (x.2).toNatClampNeg)) fun x1 => (some (.inl ((x.1 + x1), (x.2 + (1 : Int32)))))) else none))
set_option maxHeartbeats 1000000 in
set_option maxRecDepth 20000 in
theorem wl_X6_twos_4 {post : Option dp_V → dp_H → Prop} {h0 : dp_H} (s : dp_Z) (x : (Int32 × Int32)) (o : ((Int32 × Int32) ⊕ Int32)) (h : jb_X6_twos_4 s x = some o) (hk : dp_LK (fun x : (Int32 × Int32) => dp_W 1 mX6_twos false h0 0 0 post 0 0 (4, [some (.inr (some 0)), some (.inl x.1), some (.inl x.2)], [], (hM s))) (fun x : Int32 => dp_W 1 mX6_twos false h0 0 0 post 0 0 (30, [none, some (.inl x), none], [], (hM s))) o) : dp_W 1 mX6_twos false h0 0 0 post 0 0 (4, [some (.inr (some 0)), some (.inl x.1), some (.inl x.2)], [], (hM s)) := by
  unfold jb_X6_twos_4 at h
  refine dp_blk okX6_twos 3 (S' := (9, [some (.inr (some 0)), some (.inl x.1), some (.inl x.2)], [.inl (s.1 0), .inl x.2], (hM s))) rfl ?_
  refine dp_if okX6_twos rfl (fun (c : (s.1 0) ≤ x.2) => ?_) (fun (c : ¬ (s.1 0) ≤ x.2) => ?_)
  · have h := dp_ip c h
    refine dp_blk okX6_twos 0 (S' := (30, [some (.inr (some 0)), some (.inl x.1), some (.inl x.2)], [], (hM s))) rfl ?_
    cases h
    refine dp_fg [false, true, false] (L' := [none, some (.inl x.1), none]) rfl rfl ?_
    exact hk
  · have h := dp_ic c h
    refine dp_blk okX6_twos 4 (S' := (18, [some (.inr (some 0)), some (.inl x.1), some (.inl x.2)], [.inl x.2, .inr (some 1), .inl x.1], (hM s))) rfl ?_
    obtain ⟨hi, h⟩ := dp_ite h
    refine dp_ial (g := (s.2 0)) okX6_twos rfl rfl (dp_inb_in hi) ?_
    refine dp_blk okX6_twos 0 (S' := (19, [some (.inr (some 0)), some (.inl x.1), some (.inl x.2)], [.inl ((s.2 0) (x.2).toNatClampNeg), .inl x.1], (hM s))) rfl ?_
    obtain ⟨x1, hc, h⟩ := dp_bd_inv h
    refine dp_cS okX6_twos okX6_size (as := [.inl ((s.2 0) (x.2).toNatClampNeg)]) (r := [.inl x.1]) rfl lk_NearLiarsModel_115 npX6_size (c_X6_size (hM s) ((s.2 0) (x.2).toNatClampNeg) x1 hc) rfl (Nat.le_of_ble_eq_true rfl) (Nat.le_of_ble_eq_true rfl) (Nat.le_refl _) (Nat.le_refl _) ?_
    refine dp_blk okX6_twos 4 (S' := (4, [some (.inr (some 0)), some (.inl (x.1 + x1)), some (.inl (x.2 + (1 : Int32)))], [], (hM s))) rfl ?_
    cases h
    exact hk
def j_X6_twos (s : dp_Z) : Option Int32 := (dp_bd (dp_loop (jb_X6_twos_4 s) dp_F ((0 : Int32), (0 : Int32))) fun x2 => (some (x2 / (2 : Int32))))
set_option maxHeartbeats 1000000 in
set_option maxRecDepth 20000 in
theorem we_X6_twos {post : Option dp_V → dp_H → Prop} {h0 : dp_H} (s : dp_Z) (o : Int32) (h : j_X6_twos s = some o) (hk : post (some (.inl o)) (hM s)) : dp_W 1 mX6_twos false h0 0 0 post 0 0 (0, [some (.inr (some 0)), none, none], [], (hM s)) := by
  unfold j_X6_twos at h
  refine dp_blk okX6_twos 4 (S' := (4, [some (.inr (some 0)), some (.inl (0 : Int32)), some (.inl (0 : Int32))], [], (hM s))) rfl ?_
  obtain ⟨x2, hl, h⟩ := dp_bd_inv h
  refine dp_loopW (wl_X6_twos_4 s) dp_F ((0 : Int32), (0 : Int32)) x2 hl ?_
  show dp_W 1 mX6_twos false h0 0 0 post 0 0 (30, [none, some (.inl x2), none], [], (hM s))
  refine dp_blk okX6_twos 2 (S' := (32, [none, some (.inl x2), none], [.inl (2 : Int32), .inl x2], (hM s))) rfl ?_
  refine dp_idiv okX6_twos rfl (by decide) ?_
  refine dp_blk okX6_twos 0 (S' := (33, [none, some (.inl x2), none], [.inl (x2 / (2 : Int32))], (hM s))) rfl ?_
  cases h
  exact dp_iret okX6_twos rfl rfl hk
theorem c_X6_twos (s : dp_Z) (o : Int32) (h : j_X6_twos s = some o) : dp_C 1 mX6_twos false [.inr (some 0)] (hM s) 0 0 (dp_R (some (.inl o)) (hM s)) := dp_C_of okX6_twos [some (.inr (some 0)), none, none] rfl (Nat.le_of_ble_eq_true rfl) (we_X6_twos s o h ⟨rfl, rfl⟩)
def j_X6_many (s : dp_Z) (v1 : Int32) : Option Int32 := (if v1 = (0 : Int32) then (some (s.1 0)) else (if v1 = (1 : Int32) then (dp_bd (j_X6_twos s) fun x1 => (some x1)) else (if v1 = (2 : Int32) then (dp_bd (j_X6_manyHonest s (0 : Int32) (s.1 0) (0 : Int32)) fun x2 => (some ((s.1 0) - x2))) else (if v1 = (3 : Int32) then (some (s.1 6)) else (if v1 = (4 : Int32) then (some (s.1 7)) else (if v1 = (5 : Int32) then (dp_bd (j_X6_manyHonest s (0 : Int32) (s.1 0) (v1 - (4 : Int32))) fun x3 => (some x3)) else (if v1 = (6 : Int32) then (dp_bd (j_X6_manyHonest s (0 : Int32) (s.1 0) (v1 - (4 : Int32))) fun x4 => (some x4)) else (if v1 = (7 : Int32) then (some (s.1 11)) else (if v1 = (8 : Int32) then (some (s.1 13)) else (if v1 = (9 : Int32) then (some (s.1 12)) else (if v1 = (10 : Int32) then (some (s.1 2)) else (some (-2 : Int32)))))))))))))
set_option maxHeartbeats 1000000 in
set_option maxRecDepth 20000 in
theorem we_X6_many {post : Option dp_V → dp_H → Prop} {h0 : dp_H} (s : dp_Z) (v1 : Int32) (o : Int32) (h : j_X6_many s v1 = some o) (hk : post (some (.inl o)) (hM s)) : dp_W 2 mX6_many false h0 0 0 post 0 0 (0, [some (.inr (some 0)), some (.inl v1)], [], (hM s)) := by
  unfold j_X6_many at h
  refine dp_blk okX6_many 1 (S' := (1, [some (.inr (some 0)), some (.inl v1)], [.inl v1], (hM s))) rfl ?_
  by_cases c0 : v1 = (0 : Int32)
  · have h := dp_ip c0 h
    refine dp_swI okX6_many (tgt := 60) rfl (by rw [c0]; exact ⟨by decide, by decide, rfl, by decide⟩) ?_
    refine dp_blk okX6_many 2 (S' := (64, [some (.inr (some 0)), some (.inl v1)], [.inl (s.1 0)], (hM s))) rfl ?_
    cases h
    exact dp_iret okX6_many rfl rfl hk
  have h := dp_ic c0 h
  by_cases c1 : v1 = (1 : Int32)
  · have h := dp_ip c1 h
    refine dp_swI okX6_many (tgt := 65) rfl (by rw [c1]; exact ⟨by decide, by decide, rfl, by decide⟩) ?_
    refine dp_blk okX6_many 1 (S' := (66, [some (.inr (some 0)), some (.inl v1)], [.inr (some 0)], (hM s))) rfl ?_
    obtain ⟨x1, hc, h⟩ := dp_bd_inv h
    refine dp_cV okX6_many okX6_twos (as := []) (r := []) rfl lk_NearLiarsModel_183 npX6_twos (c_X6_twos s x1 hc) rfl rfl rfl rfl (Nat.le_of_ble_eq_true rfl) (Nat.le_of_ble_eq_true rfl) (Nat.le_refl _) (Nat.le_refl _) ?_
    refine dp_blk okX6_many 0 (S' := (69, [some (.inr (some 0)), some (.inl v1)], [.inl x1], (hM s))) rfl ?_
    cases h
    exact dp_iret okX6_many rfl rfl hk
  have h := dp_ic c1 h
  by_cases c2 : v1 = (2 : Int32)
  · have h := dp_ip c2 h
    refine dp_swI okX6_many (tgt := 70) rfl (by rw [c2]; exact ⟨by decide, by decide, rfl, by decide⟩) ?_
    refine dp_blk okX6_many 7 (S' := (81, [some (.inr (some 0)), some (.inl v1)], [.inl (0 : Int32), .inl (s.1 0), .inl (0 : Int32), .inr (some 0), .inl (s.1 0)], (hM s))) rfl ?_
    obtain ⟨x2, hc, h⟩ := dp_bd_inv h
    refine dp_cV okX6_many okX6_manyHonest (as := [.inl (0 : Int32), .inl (s.1 0), .inl (0 : Int32)]) (r := [.inl (s.1 0)]) rfl lk_NearLiarsModel_136 npX6_manyHonest (c_X6_manyHonest s (0 : Int32) (s.1 0) (0 : Int32) x2 hc) rfl rfl rfl rfl (Nat.le_of_ble_eq_true rfl) (Nat.le_of_ble_eq_true rfl) (Nat.le_refl _) (Nat.le_refl _) ?_
    refine dp_blk okX6_many 1 (S' := (85, [some (.inr (some 0)), some (.inl v1)], [.inl ((s.1 0) - x2)], (hM s))) rfl ?_
    cases h
    exact dp_iret okX6_many rfl rfl hk
  have h := dp_ic c2 h
  by_cases c3 : v1 = (3 : Int32)
  · have h := dp_ip c3 h
    refine dp_swI okX6_many (tgt := 86) rfl (by rw [c3]; exact ⟨by decide, by decide, rfl, by decide⟩) ?_
    refine dp_blk okX6_many 2 (S' := (90, [some (.inr (some 0)), some (.inl v1)], [.inl (s.1 6)], (hM s))) rfl ?_
    cases h
    exact dp_iret okX6_many rfl rfl hk
  have h := dp_ic c3 h
  by_cases c4 : v1 = (4 : Int32)
  · have h := dp_ip c4 h
    refine dp_swI okX6_many (tgt := 91) rfl (by rw [c4]; exact ⟨by decide, by decide, rfl, by decide⟩) ?_
    refine dp_blk okX6_many 2 (S' := (95, [some (.inr (some 0)), some (.inl v1)], [.inl (s.1 7)], (hM s))) rfl ?_
    cases h
    exact dp_iret okX6_many rfl rfl hk
  have h := dp_ic c4 h
  by_cases c5 : v1 = (5 : Int32)
  · have h := dp_ip c5 h
    refine dp_swI okX6_many (tgt := 96) rfl (by rw [c5]; exact ⟨by decide, by decide, rfl, by decide⟩) ?_
    refine dp_blk okX6_many 7 (S' := (105, [some (.inr (some 0)), some (.inl v1)], [.inl (v1 - (4 : Int32)), .inl (s.1 0), .inl (0 : Int32), .inr (some 0)], (hM s))) rfl ?_
    obtain ⟨x3, hc, h⟩ := dp_bd_inv h
    refine dp_cV okX6_many okX6_manyHonest (as := [.inl (0 : Int32), .inl (s.1 0), .inl (v1 - (4 : Int32))]) (r := []) rfl lk_NearLiarsModel_136 npX6_manyHonest (c_X6_manyHonest s (0 : Int32) (s.1 0) (v1 - (4 : Int32)) x3 hc) rfl rfl rfl rfl (Nat.le_of_ble_eq_true rfl) (Nat.le_of_ble_eq_true rfl) (Nat.le_refl _) (Nat.le_refl _) ?_
    refine dp_blk okX6_many 0 (S' := (108, [some (.inr (some 0)), some (.inl v1)], [.inl x3], (hM s))) rfl ?_
    cases h
    exact dp_iret okX6_many rfl rfl hk
  have h := dp_ic c5 h
  by_cases c6 : v1 = (6 : Int32)
  · have h := dp_ip c6 h
    refine dp_swI okX6_many (tgt := 96) rfl (by rw [c6]; exact ⟨by decide, by decide, rfl, by decide⟩) ?_
    refine dp_blk okX6_many 7 (S' := (105, [some (.inr (some 0)), some (.inl v1)], [.inl (v1 - (4 : Int32)), .inl (s.1 0), .inl (0 : Int32), .inr (some 0)], (hM s))) rfl ?_
    obtain ⟨x4, hc, h⟩ := dp_bd_inv h
    refine dp_cV okX6_many okX6_manyHonest (as := [.inl (0 : Int32), .inl (s.1 0), .inl (v1 - (4 : Int32))]) (r := []) rfl lk_NearLiarsModel_136 npX6_manyHonest (c_X6_manyHonest s (0 : Int32) (s.1 0) (v1 - (4 : Int32)) x4 hc) rfl rfl rfl rfl (Nat.le_of_ble_eq_true rfl) (Nat.le_of_ble_eq_true rfl) (Nat.le_refl _) (Nat.le_refl _) ?_
    refine dp_blk okX6_many 0 (S' := (108, [some (.inr (some 0)), some (.inl v1)], [.inl x4], (hM s))) rfl ?_
    cases h
    exact dp_iret okX6_many rfl rfl hk
  have h := dp_ic c6 h
  by_cases c7 : v1 = (7 : Int32)
  · have h := dp_ip c7 h
    refine dp_swI okX6_many (tgt := 109) rfl (by rw [c7]; exact ⟨by decide, by decide, rfl, by decide⟩) ?_
    refine dp_blk okX6_many 2 (S' := (113, [some (.inr (some 0)), some (.inl v1)], [.inl (s.1 11)], (hM s))) rfl ?_
    cases h
    exact dp_iret okX6_many rfl rfl hk
  have h := dp_ic c7 h
  by_cases c8 : v1 = (8 : Int32)
  · have h := dp_ip c8 h
    refine dp_swI okX6_many (tgt := 114) rfl (by rw [c8]; exact ⟨by decide, by decide, rfl, by decide⟩) ?_
    refine dp_blk okX6_many 2 (S' := (118, [some (.inr (some 0)), some (.inl v1)], [.inl (s.1 13)], (hM s))) rfl ?_
    cases h
    exact dp_iret okX6_many rfl rfl hk
  have h := dp_ic c8 h
  by_cases c9 : v1 = (9 : Int32)
  · have h := dp_ip c9 h
    refine dp_swI okX6_many (tgt := 119) rfl (by rw [c9]; exact ⟨by decide, by decide, rfl, by decide⟩) ?_
    refine dp_blk okX6_many 2 (S' := (123, [some (.inr (some 0)), some (.inl v1)], [.inl (s.1 12)], (hM s))) rfl ?_
    cases h
    exact dp_iret okX6_many rfl rfl hk
  have h := dp_ic c9 h
  by_cases c10 : v1 = (10 : Int32)
  · have h := dp_ip c10 h
    refine dp_swI okX6_many (tgt := 124) rfl (by rw [c10]; exact ⟨by decide, by decide, rfl, by decide⟩) ?_
    refine dp_blk okX6_many 2 (S' := (128, [some (.inr (some 0)), some (.inl v1)], [.inl (s.1 2)], (hM s))) rfl ?_
    cases h
    exact dp_iret okX6_many rfl rfl hk
  have h := dp_ic c10 h
  refine dp_swO okX6_many (tgt := 129) rfl (dp_out 10 (by decide) (fun j hj => ?_)) (by decide) ?_
  · rcases (show j = 0 ∨ j = 1 ∨ j = 2 ∨ j = 3 ∨ j = 4 ∨ j = 5 ∨ j = 6 ∨ j = 7 ∨ j = 8 ∨ j = 9 ∨ j = 10 by omega) with rfl | rfl | rfl | rfl | rfl | rfl | rfl | rfl | rfl | rfl | rfl
    · exact c0
    · exact c1
    · exact c2
    · exact c3
    · exact c4
    · exact c5
    · exact c6
    · exact c7
    · exact c8
    · exact c9
    · exact c10
  refine dp_blk okX6_many 1 (S' := (131, [some (.inr (some 0)), some (.inl v1)], [.inl (-2 : Int32)], (hM s))) rfl ?_
  cases h
  exact dp_iret okX6_many rfl rfl hk
theorem c_X6_many (s : dp_Z) (v1 : Int32) (o : Int32) (h : j_X6_many s v1 = some o) : dp_C 2 mX6_many false [.inr (some 0), .inl v1] (hM s) 0 0 (dp_R (some (.inl o)) (hM s)) := dp_C_of okX6_many [some (.inr (some 0)), some (.inl v1)] rfl (Nat.le_of_ble_eq_true rfl) (we_X6_many s v1 o h ⟨rfl, rfl⟩)
