/-! ===== printed by program: the pure functions of the methods, and that the bytecode does what they say ===== -/
def j_X5_layAnew (s : dp_Z) (v1 v2 v3 : Int32) : Option (Int32 × dp_Z) := (dp_bd (j_X2_lay s v1 v2 v3) fun x1 => (dp_bd (j_X1_forget x1) fun x2 => (dp_bd (j_X0_forget x2) fun x3 => (dp_bd (j_X3_restart x3) fun x4 => (some ((x4.1 0), x4))))))
set_option maxHeartbeats 1000000 in
set_option maxRecDepth 20000 in
theorem we_X5_layAnew {post : Option dp_V → dp_H → Prop} {h0 : dp_H} (s : dp_Z) (v1 v2 v3 : Int32) (o : (Int32 × dp_Z)) (h : j_X5_layAnew s v1 v2 v3 = some o) (hk : post (some (.inl o.1)) (hX o.2)) : dp_W 5 mX5_layAnew false h0 0 0 post 0 0 (0, [some (.inr (some 0)), some (.inl v1), some (.inl v2), some (.inl v3)], [], (hX s)) := by
  unfold j_X5_layAnew at h
  refine dp_blk okX5_layAnew 5 (S' := (7, [some (.inr (some 0)), some (.inl v1), some (.inl v2), some (.inl v3)], [.inl v3, .inl v2, .inl v1, .inr (some 1)], (hX s))) rfl ?_
  obtain ⟨x1, hc, h⟩ := dp_bd_inv h
  refine dp_cV okX5_layAnew okX2_lay (as := [.inl v1, .inl v2, .inl v3]) (r := []) rfl lk_NearLiars_229 npX2_lay (c_X2_lay s v1 v2 v3 x1 hc) rfl rfl rfl rfl (Nat.le_of_ble_eq_true rfl) (Nat.le_of_ble_eq_true rfl) (Nat.le_refl _) (Nat.le_refl _) ?_
  refine dp_blk okX5_layAnew 2 (S' := (14, [some (.inr (some 0)), some (.inl v1), some (.inl v2), some (.inl v3)], [.inr (some 10)], (hX x1))) rfl ?_
  obtain ⟨x2, hc, h⟩ := dp_bd_inv h
  refine dp_cV okX5_layAnew okX1_forget (as := []) (r := []) rfl lk_NearLiars_233 npX1_forget (c_X1_forget x1 x2 hc) rfl rfl rfl rfl (Nat.le_of_ble_eq_true rfl) (Nat.le_of_ble_eq_true rfl) (Nat.le_refl _) (Nat.le_refl _) ?_
  refine dp_blk okX5_layAnew 2 (S' := (21, [some (.inr (some 0)), some (.inl v1), some (.inl v2), some (.inl v3)], [.inr (some 12)], (hX x2))) rfl ?_
  obtain ⟨x3, hc, h⟩ := dp_bd_inv h
  refine dp_cV okX5_layAnew okX0_forget (as := []) (r := []) rfl lk_NearLiars_64 npX0_forget (c_X0_forget x2 x3 hc) rfl rfl rfl rfl (Nat.le_of_ble_eq_true rfl) (Nat.le_of_ble_eq_true rfl) (Nat.le_refl _) (Nat.le_refl _) ?_
  refine dp_blk okX5_layAnew 4 (S' := (32, [some (.inr (some 0)), some (.inl v1), some (.inl v2), some (.inl v3)], [.inr (some 1), .inr (some 4)], (hX x3))) rfl ?_
  obtain ⟨x4, hc, h⟩ := dp_bd_inv h
  refine dp_cV okX5_layAnew okX3_restart (as := [.inr (some 1)]) (r := []) rfl lk_NearLiars_44 npX3_restart (c_X3_restart x3 x4 hc) rfl rfl rfl rfl (Nat.le_of_ble_eq_true rfl) (Nat.le_of_ble_eq_true rfl) (Nat.le_refl _) (Nat.le_refl _) ?_
  refine dp_blk okX5_layAnew 3 (S' := (42, [some (.inr (some 0)), some (.inl v1), some (.inl v2), some (.inl v3)], [.inl (x4.1 0)], (hX x4))) rfl ?_
  cases h
  exact dp_iret okX5_layAnew rfl rfl hk
theorem c_X5_layAnew (s : dp_Z) (v1 v2 v3 : Int32) (o : (Int32 × dp_Z)) (h : j_X5_layAnew s v1 v2 v3 = some o) : dp_C 5 mX5_layAnew false [.inr (some 0), .inl v1, .inl v2, .inl v3] (hX s) 0 0 (dp_R (some (.inl o.1)) (hX o.2)) := dp_C_of okX5_layAnew [some (.inr (some 0)), some (.inl v1), some (.inl v2), some (.inl v3)] rfl (Nat.le_of_ble_eq_true rfl) (we_X5_layAnew s v1 v2 v3 o h ⟨rfl, rfl⟩)
def j_X5_net (s : dp_Z) (v1 : Int32) : Option (Int32 × dp_Z) := (if v1 < (2 : Int32) then (some ((-2 : Int32), s)) else (if v1 ≤ (12 : Int32) then (dp_bd (j_X5_layAnew s v1 (1 : Int32) (0 : Int32)) fun x1 => (some (x1.1, x1.2))) else (some ((-2 : Int32), s))))
set_option maxHeartbeats 1000000 in
set_option maxRecDepth 20000 in
theorem we_X5_net {post : Option dp_V → dp_H → Prop} {h0 : dp_H} (s : dp_Z) (v1 : Int32) (o : (Int32 × dp_Z)) (h : j_X5_net s v1 = some o) (hk : post (some (.inl o.1)) (hX o.2)) : dp_W 6 mX5_net false h0 0 0 post 0 0 (0, [some (.inr (some 0)), some (.inl v1)], [], (hX s)) := by
  unfold j_X5_net at h
  refine dp_blk okX5_net 2 (S' := (2, [some (.inr (some 0)), some (.inl v1)], [.inl (2 : Int32), .inl v1], (hX s))) rfl ?_
  refine dp_if okX5_net rfl (fun (c : v1 < (2 : Int32)) => ?_) (fun (c : ¬ v1 < (2 : Int32)) => ?_)
  · have h := dp_ip c h
    refine dp_blk okX5_net 1 (S' := (13, [some (.inr (some 0)), some (.inl v1)], [.inl (-2 : Int32)], (hX s))) rfl ?_
    cases h
    exact dp_iret okX5_net rfl rfl hk
  · have h := dp_ic c h
    refine dp_blk okX5_net 2 (S' := (8, [some (.inr (some 0)), some (.inl v1)], [.inl (12 : Int32), .inl v1], (hX s))) rfl ?_
    refine dp_if okX5_net rfl (fun (c : v1 ≤ (12 : Int32)) => ?_) (fun (c : ¬ v1 ≤ (12 : Int32)) => ?_)
    · have h := dp_ip c h
      refine dp_blk okX5_net 4 (S' := (18, [some (.inr (some 0)), some (.inl v1)], [.inl (0 : Int32), .inl (1 : Int32), .inl v1, .inr (some 0)], (hX s))) rfl ?_
      obtain ⟨x1, hc, h⟩ := dp_bd_inv h
      refine dp_cV okX5_net okX5_layAnew (as := [.inl v1, .inl (1 : Int32), .inl (0 : Int32)]) (r := []) rfl lk_NearLiars_48 npX5_layAnew (c_X5_layAnew s v1 (1 : Int32) (0 : Int32) x1 hc) rfl rfl rfl rfl (Nat.le_of_ble_eq_true rfl) (Nat.le_of_ble_eq_true rfl) (Nat.le_refl _) (Nat.le_refl _) ?_
      refine dp_blk okX5_net 0 (S' := (21, [some (.inr (some 0)), some (.inl v1)], [.inl x1.1], (hX x1.2))) rfl ?_
      cases h
      exact dp_iret okX5_net rfl rfl hk
    · have h := dp_ic c h
      refine dp_blk okX5_net 1 (S' := (13, [some (.inr (some 0)), some (.inl v1)], [.inl (-2 : Int32)], (hX s))) rfl ?_
      cases h
      exact dp_iret okX5_net rfl rfl hk
theorem c_X5_net (s : dp_Z) (v1 : Int32) (o : (Int32 × dp_Z)) (h : j_X5_net s v1 = some o) : dp_C 6 mX5_net false [.inr (some 0), .inl v1] (hX s) 0 0 (dp_R (some (.inl o.1)) (hX o.2)) := dp_C_of okX5_net [some (.inr (some 0)), some (.inl v1)] rfl (Nat.le_of_ble_eq_true rfl) (we_X5_net s v1 o h ⟨rfl, rfl⟩)
def j_X5_grid (s : dp_Z) (v1 v2 v3 : Int32) : Option (Int32 × dp_Z) := (if v1 < (1 : Int32) then (some ((-2 : Int32), s)) else (if (12 : Int32) < v1 then (some ((-2 : Int32), s)) else (if v2 < (1 : Int32) then (some ((-2 : Int32), s)) else (if v2 ≤ (12 : Int32) then (if (v1 * v2) < (2 : Int32) then (some ((-2 : Int32), s)) else (if (12 : Int32) < (v1 * v2) then (some ((-2 : Int32), s)) else (if v3 < (1 : Int32) then (some ((-2 : Int32), s)) else (if v3 ≤ (3 : Int32) then (dp_bd (j_X5_layAnew s v1 v2 v3) fun x1 => (some (x1.1, x1.2))) else (some ((-2 : Int32), s)))))) else (some ((-2 : Int32), s))))))
set_option maxHeartbeats 1000000 in
set_option maxRecDepth 20000 in
theorem we_X5_grid {post : Option dp_V → dp_H → Prop} {h0 : dp_H} (s : dp_Z) (v1 v2 v3 : Int32) (o : (Int32 × dp_Z)) (h : j_X5_grid s v1 v2 v3 = some o) (hk : post (some (.inl o.1)) (hX o.2)) : dp_W 6 mX5_grid false h0 0 0 post 0 0 (0, [some (.inr (some 0)), some (.inl v1), some (.inl v2), some (.inl v3)], [], (hX s)) := by
  unfold j_X5_grid at h
  refine dp_blk okX5_grid 2 (S' := (2, [some (.inr (some 0)), some (.inl v1), some (.inl v2), some (.inl v3)], [.inl (1 : Int32), .inl v1], (hX s))) rfl ?_
  refine dp_if okX5_grid rfl (fun (c : v1 < (1 : Int32)) => ?_) (fun (c : ¬ v1 < (1 : Int32)) => ?_)
  · have h := dp_ip c h
    refine dp_blk okX5_grid 1 (S' := (24, [some (.inr (some 0)), some (.inl v1), some (.inl v2), some (.inl v3)], [.inl (-2 : Int32)], (hX s))) rfl ?_
    cases h
    exact dp_iret okX5_grid rfl rfl hk
  · have h := dp_ic c h
    refine dp_blk okX5_grid 2 (S' := (8, [some (.inr (some 0)), some (.inl v1), some (.inl v2), some (.inl v3)], [.inl (12 : Int32), .inl v1], (hX s))) rfl ?_
    refine dp_if okX5_grid rfl (fun (c : (12 : Int32) < v1) => ?_) (fun (c : ¬ (12 : Int32) < v1) => ?_)
    · have h := dp_ip c h
      refine dp_blk okX5_grid 1 (S' := (24, [some (.inr (some 0)), some (.inl v1), some (.inl v2), some (.inl v3)], [.inl (-2 : Int32)], (hX s))) rfl ?_
      cases h
      exact dp_iret okX5_grid rfl rfl hk
    · have h := dp_ic c h
      refine dp_blk okX5_grid 2 (S' := (13, [some (.inr (some 0)), some (.inl v1), some (.inl v2), some (.inl v3)], [.inl (1 : Int32), .inl v2], (hX s))) rfl ?_
      refine dp_if okX5_grid rfl (fun (c : v2 < (1 : Int32)) => ?_) (fun (c : ¬ v2 < (1 : Int32)) => ?_)
      · have h := dp_ip c h
        refine dp_blk okX5_grid 1 (S' := (24, [some (.inr (some 0)), some (.inl v1), some (.inl v2), some (.inl v3)], [.inl (-2 : Int32)], (hX s))) rfl ?_
        cases h
        exact dp_iret okX5_grid rfl rfl hk
      · have h := dp_ic c h
        refine dp_blk okX5_grid 2 (S' := (19, [some (.inr (some 0)), some (.inl v1), some (.inl v2), some (.inl v3)], [.inl (12 : Int32), .inl v2], (hX s))) rfl ?_
        refine dp_if okX5_grid rfl (fun (c : v2 ≤ (12 : Int32)) => ?_) (fun (c : ¬ v2 ≤ (12 : Int32)) => ?_)
        · have h := dp_ip c h
          refine dp_blk okX5_grid 4 (S' := (29, [some (.inr (some 0)), some (.inl v1), some (.inl v2), some (.inl v3)], [.inl (2 : Int32), .inl (v1 * v2)], (hX s))) rfl ?_
          refine dp_if okX5_grid rfl (fun (c : (v1 * v2) < (2 : Int32)) => ?_) (fun (c : ¬ (v1 * v2) < (2 : Int32)) => ?_)
          · have h := dp_ip c h
            refine dp_blk okX5_grid 1 (S' := (52, [some (.inr (some 0)), some (.inl v1), some (.inl v2), some (.inl v3)], [.inl (-2 : Int32)], (hX s))) rfl ?_
            cases h
            exact dp_iret okX5_grid rfl rfl hk
          · have h := dp_ic c h
            refine dp_blk okX5_grid 4 (S' := (37, [some (.inr (some 0)), some (.inl v1), some (.inl v2), some (.inl v3)], [.inl (12 : Int32), .inl (v1 * v2)], (hX s))) rfl ?_
            refine dp_if okX5_grid rfl (fun (c : (12 : Int32) < (v1 * v2)) => ?_) (fun (c : ¬ (12 : Int32) < (v1 * v2)) => ?_)
            · have h := dp_ip c h
              refine dp_blk okX5_grid 1 (S' := (52, [some (.inr (some 0)), some (.inl v1), some (.inl v2), some (.inl v3)], [.inl (-2 : Int32)], (hX s))) rfl ?_
              cases h
              exact dp_iret okX5_grid rfl rfl hk
            · have h := dp_ic c h
              refine dp_blk okX5_grid 2 (S' := (42, [some (.inr (some 0)), some (.inl v1), some (.inl v2), some (.inl v3)], [.inl (1 : Int32), .inl v3], (hX s))) rfl ?_
              refine dp_if okX5_grid rfl (fun (c : v3 < (1 : Int32)) => ?_) (fun (c : ¬ v3 < (1 : Int32)) => ?_)
              · have h := dp_ip c h
                refine dp_blk okX5_grid 1 (S' := (52, [some (.inr (some 0)), some (.inl v1), some (.inl v2), some (.inl v3)], [.inl (-2 : Int32)], (hX s))) rfl ?_
                cases h
                exact dp_iret okX5_grid rfl rfl hk
              · have h := dp_ic c h
                refine dp_blk okX5_grid 2 (S' := (47, [some (.inr (some 0)), some (.inl v1), some (.inl v2), some (.inl v3)], [.inl (3 : Int32), .inl v3], (hX s))) rfl ?_
                refine dp_if okX5_grid rfl (fun (c : v3 ≤ (3 : Int32)) => ?_) (fun (c : ¬ v3 ≤ (3 : Int32)) => ?_)
                · have h := dp_ip c h
                  refine dp_blk okX5_grid 4 (S' := (57, [some (.inr (some 0)), some (.inl v1), some (.inl v2), some (.inl v3)], [.inl v3, .inl v2, .inl v1, .inr (some 0)], (hX s))) rfl ?_
                  obtain ⟨x1, hc, h⟩ := dp_bd_inv h
                  refine dp_cV okX5_grid okX5_layAnew (as := [.inl v1, .inl v2, .inl v3]) (r := []) rfl lk_NearLiars_48 npX5_layAnew (c_X5_layAnew s v1 v2 v3 x1 hc) rfl rfl rfl rfl (Nat.le_of_ble_eq_true rfl) (Nat.le_of_ble_eq_true rfl) (Nat.le_refl _) (Nat.le_refl _) ?_
                  refine dp_blk okX5_grid 0 (S' := (60, [some (.inr (some 0)), some (.inl v1), some (.inl v2), some (.inl v3)], [.inl x1.1], (hX x1.2))) rfl ?_
                  cases h
                  exact dp_iret okX5_grid rfl rfl hk
                · have h := dp_ic c h
                  refine dp_blk okX5_grid 1 (S' := (52, [some (.inr (some 0)), some (.inl v1), some (.inl v2), some (.inl v3)], [.inl (-2 : Int32)], (hX s))) rfl ?_
                  cases h
                  exact dp_iret okX5_grid rfl rfl hk
        · have h := dp_ic c h
          refine dp_blk okX5_grid 1 (S' := (24, [some (.inr (some 0)), some (.inl v1), some (.inl v2), some (.inl v3)], [.inl (-2 : Int32)], (hX s))) rfl ?_
          cases h
          exact dp_iret okX5_grid rfl rfl hk
theorem c_X5_grid (s : dp_Z) (v1 v2 v3 : Int32) (o : (Int32 × dp_Z)) (h : j_X5_grid s v1 v2 v3 = some o) : dp_C 6 mX5_grid false [.inr (some 0), .inl v1, .inl v2, .inl v3] (hX s) 0 0 (dp_R (some (.inl o.1)) (hX o.2)) := dp_C_of okX5_grid [some (.inr (some 0)), some (.inl v1), some (.inl v2), some (.inl v3)] rfl (Nat.le_of_ble_eq_true rfl) (we_X5_grid s v1 v2 v3 o h ⟨rfl, rfl⟩)
def jj_X5_edge_79 (s : dp_Z) (v4 t0 t1 t2 : Int32) : Option (Int32 × dp_Z) := (dp_bd (j_X2_link s t2 t1 t0) fun x4 => (dp_bd (j_X0_forget x4) fun x5 => (dp_bd (j_X3_restart x5) fun x6 => (some (v4, x6)))))
set_option maxHeartbeats 1000000 in
set_option maxRecDepth 20000 in
theorem wj_X5_edge_79 {post : Option dp_V → dp_H → Prop} {h0 : dp_H} (s : dp_Z) (v4 t0 t1 t2 : Int32) (o : (Int32 × dp_Z)) (h : jj_X5_edge_79 s v4 t0 t1 t2 = some o) (hk : post (some (.inl o.1)) (hX o.2)) : dp_W 5 mX5_edge false h0 0 0 post 0 0 (79, [some (.inr (some 0)), none, none, none, some (.inl v4)], [.inl t0, .inl t1, .inl t2, .inr (some 1)], (hX s)) := by
  unfold jj_X5_edge_79 at h
  obtain ⟨x4, hc, h⟩ := dp_bd_inv h
  refine dp_cV okX5_edge okX2_link (as := [.inl t2, .inl t1, .inl t0]) (r := []) rfl lk_NearLiars_60 npX2_link (c_X2_link s t2 t1 t0 x4 hc) rfl rfl rfl rfl (Nat.le_of_ble_eq_true rfl) (Nat.le_of_ble_eq_true rfl) (Nat.le_refl _) (Nat.le_refl _) ?_
  refine dp_blk okX5_edge 2 (S' := (86, [some (.inr (some 0)), none, none, none, some (.inl v4)], [.inr (some 12)], (hX x4))) rfl ?_
  obtain ⟨x5, hc, h⟩ := dp_bd_inv h
  refine dp_cV okX5_edge okX0_forget (as := []) (r := []) rfl lk_NearLiars_64 npX0_forget (c_X0_forget x4 x5 hc) rfl rfl rfl rfl (Nat.le_of_ble_eq_true rfl) (Nat.le_of_ble_eq_true rfl) (Nat.le_refl _) (Nat.le_refl _) ?_
  refine dp_blk okX5_edge 4 (S' := (97, [some (.inr (some 0)), none, none, none, some (.inl v4)], [.inr (some 1), .inr (some 4)], (hX x5))) rfl ?_
  obtain ⟨x6, hc, h⟩ := dp_bd_inv h
  refine dp_cV okX5_edge okX3_restart (as := [.inr (some 1)]) (r := []) rfl lk_NearLiars_44 npX3_restart (c_X3_restart x5 x6 hc) rfl rfl rfl rfl (Nat.le_of_ble_eq_true rfl) (Nat.le_of_ble_eq_true rfl) (Nat.le_refl _) (Nat.le_refl _) ?_
  refine dp_blk okX5_edge 1 (S' := (102, [some (.inr (some 0)), none, none, none, some (.inl v4)], [.inl v4], (hX x6))) rfl ?_
  cases h
  exact dp_iret okX5_edge rfl rfl hk
def jj_X5_edge_61 (s : dp_Z) (v1 v2 v3 t0 : Int32) : Option (Int32 × dp_Z) := (if v3 = (1 : Int32) then (jj_X5_edge_79 s t0 (1 : Int32) v2 v1) else (jj_X5_edge_79 s t0 (0 : Int32) v2 v1))
set_option maxHeartbeats 1000000 in
set_option maxRecDepth 20000 in
theorem wj_X5_edge_61 {post : Option dp_V → dp_H → Prop} {h0 : dp_H} (s : dp_Z) (v1 v2 v3 t0 : Int32) (o : (Int32 × dp_Z)) (h : jj_X5_edge_61 s v1 v2 v3 t0 = some o) (hk : post (some (.inl o.1)) (hX o.2)) : dp_W 5 mX5_edge false h0 0 0 post 0 0 (61, [some (.inr (some 0)), some (.inl v1), some (.inl v2), some (.inl v3), none], [.inl t0], (hX s)) := by
  unfold jj_X5_edge_61 at h
  refine dp_blk okX5_edge 7 (S' := (71, [some (.inr (some 0)), some (.inl v1), some (.inl v2), some (.inl v3), some (.inl t0)], [.inl (1 : Int32), .inl v3, .inl v2, .inl v1, .inr (some 1)], (hX s))) rfl ?_
  refine dp_if okX5_edge rfl (fun (c : ¬ v3 = (1 : Int32)) => ?_) (fun (c : v3 = (1 : Int32)) => ?_)
  · have h := dp_ic c h
    refine dp_blk okX5_edge 1 (S' := (79, [some (.inr (some 0)), some (.inl v1), some (.inl v2), some (.inl v3), some (.inl t0)], [.inl (0 : Int32), .inl v2, .inl v1, .inr (some 1)], (hX s))) rfl ?_
    refine dp_fg [true, false, false, false, true] (L' := [some (.inr (some 0)), none, none, none, some (.inl t0)]) rfl rfl ?_
    exact wj_X5_edge_79 s t0 (0 : Int32) v2 v1 _ h hk
  · have h := dp_ip c h
    refine dp_blk okX5_edge 2 (S' := (79, [some (.inr (some 0)), some (.inl v1), some (.inl v2), some (.inl v3), some (.inl t0)], [.inl (1 : Int32), .inl v2, .inl v1, .inr (some 1)], (hX s))) rfl ?_
    refine dp_fg [true, false, false, false, true] (L' := [some (.inr (some 0)), none, none, none, some (.inl t0)]) rfl rfl ?_
    exact wj_X5_edge_79 s t0 (1 : Int32) v2 v1 _ h hk
def j_X5_edge (s : dp_Z) (v1 v2 v3 : Int32) : Option (Int32 × dp_Z) := (dp_bd (j_X2_has s v1) fun x1 => (if x1 = (0 : Int32) then (some ((-1 : Int32), s)) else (dp_bd (j_X2_has s v2) fun x2 => (if x2 = (0 : Int32) then (some ((-1 : Int32), s)) else (if v3 < (0 : Int32) then (some ((-2 : Int32), s)) else (if v3 ≤ (1 : Int32) then (if v1 = v2 then (some ((-3 : Int32), s)) else (dp_bd (j_X2_areLinked s v1 v2) fun x3 => (if x3 = (0 : Int32) then (jj_X5_edge_61 s v1 v2 v3 (0 : Int32)) else (jj_X5_edge_61 s v1 v2 v3 (1 : Int32))))) else (some ((-2 : Int32), s))))))))
set_option maxHeartbeats 1000000 in
set_option maxRecDepth 20000 in
theorem we_X5_edge {post : Option dp_V → dp_H → Prop} {h0 : dp_H} (s : dp_Z) (v1 v2 v3 : Int32) (o : (Int32 × dp_Z)) (h : j_X5_edge s v1 v2 v3 = some o) (hk : post (some (.inl o.1)) (hX o.2)) : dp_W 5 mX5_edge false h0 0 0 post 0 0 (0, [some (.inr (some 0)), some (.inl v1), some (.inl v2), some (.inl v3), none], [], (hX s)) := by
  unfold j_X5_edge at h
  refine dp_blk okX5_edge 3 (S' := (5, [some (.inr (some 0)), some (.inl v1), some (.inl v2), some (.inl v3), none], [.inl v1, .inr (some 1)], (hX s))) rfl ?_
  obtain ⟨x1, hc, h⟩ := dp_bd_inv h
  refine dp_cV okX5_edge okX2_has (as := [.inl v1]) (r := []) rfl lk_NearLiars_52 npX2_has (c_X2_has s v1 x1 hc) rfl rfl rfl rfl (Nat.le_of_ble_eq_true rfl) (Nat.le_of_ble_eq_true rfl) (Nat.le_refl _) (Nat.le_refl _) ?_
  refine dp_blk okX5_edge 0 (S' := (8, [some (.inr (some 0)), some (.inl v1), some (.inl v2), some (.inl v3), none], [.inl x1], (hX s))) rfl ?_
  refine dp_if0 okX5_edge rfl (fun (c : x1 = (0 : Int32)) => ?_) (fun (c : ¬ x1 = (0 : Int32)) => ?_)
  · have h := dp_ip c h
    refine dp_blk okX5_edge 1 (S' := (23, [some (.inr (some 0)), some (.inl v1), some (.inl v2), some (.inl v3), none], [.inl (-1 : Int32)], (hX s))) rfl ?_
    cases h
    exact dp_iret okX5_edge rfl rfl hk
  · have h := dp_ic c h
    refine dp_blk okX5_edge 3 (S' := (16, [some (.inr (some 0)), some (.inl v1), some (.inl v2), some (.inl v3), none], [.inl v2, .inr (some 1)], (hX s))) rfl ?_
    obtain ⟨x2, hc, h⟩ := dp_bd_inv h
    refine dp_cV okX5_edge okX2_has (as := [.inl v2]) (r := []) rfl lk_NearLiars_52 npX2_has (c_X2_has s v2 x2 hc) rfl rfl rfl rfl (Nat.le_of_ble_eq_true rfl) (Nat.le_of_ble_eq_true rfl) (Nat.le_refl _) (Nat.le_refl _) ?_
    refine dp_blk okX5_edge 0 (S' := (19, [some (.inr (some 0)), some (.inl v1), some (.inl v2), some (.inl v3), none], [.inl x2], (hX s))) rfl ?_
    refine dp_if0 okX5_edge rfl (fun (c : ¬ x2 = (0 : Int32)) => ?_) (fun (c : x2 = (0 : Int32)) => ?_)
    · have h := dp_ic c h
      refine dp_blk okX5_edge 1 (S' := (25, [some (.inr (some 0)), some (.inl v1), some (.inl v2), some (.inl v3), none], [.inl v3], (hX s))) rfl ?_
      refine dp_if0 okX5_edge rfl (fun (c : v3 < (0 : Int32)) => ?_) (fun (c : ¬ v3 < (0 : Int32)) => ?_)
      · have h := dp_ip c h
        refine dp_blk okX5_edge 1 (S' := (35, [some (.inr (some 0)), some (.inl v1), some (.inl v2), some (.inl v3), none], [.inl (-2 : Int32)], (hX s))) rfl ?_
        cases h
        exact dp_iret okX5_edge rfl rfl hk
      · have h := dp_ic c h
        refine dp_blk okX5_edge 2 (S' := (30, [some (.inr (some 0)), some (.inl v1), some (.inl v2), some (.inl v3), none], [.inl (1 : Int32), .inl v3], (hX s))) rfl ?_
        refine dp_if okX5_edge rfl (fun (c : v3 ≤ (1 : Int32)) => ?_) (fun (c : ¬ v3 ≤ (1 : Int32)) => ?_)
        · have h := dp_ip c h
          refine dp_blk okX5_edge 2 (S' := (38, [some (.inr (some 0)), some (.inl v1), some (.inl v2), some (.inl v3), none], [.inl v2, .inl v1], (hX s))) rfl ?_
          refine dp_if okX5_edge rfl (fun (c : ¬ v1 = v2) => ?_) (fun (c : v1 = v2) => ?_)
          · have h := dp_ic c h
            refine dp_blk okX5_edge 4 (S' := (50, [some (.inr (some 0)), some (.inl v1), some (.inl v2), some (.inl v3), none], [.inl v2, .inl v1, .inr (some 1)], (hX s))) rfl ?_
            obtain ⟨x3, hc, h⟩ := dp_bd_inv h
            refine dp_cV okX5_edge okX2_areLinked (as := [.inl v1, .inl v2]) (r := []) rfl lk_NearLiars_56 npX2_areLinked (c_X2_areLinked s v1 v2 x3 hc) rfl rfl rfl rfl (Nat.le_of_ble_eq_true rfl) (Nat.le_of_ble_eq_true rfl) (Nat.le_refl _) (Nat.le_refl _) ?_
            refine dp_blk okX5_edge 0 (S' := (53, [some (.inr (some 0)), some (.inl v1), some (.inl v2), some (.inl v3), none], [.inl x3], (hX s))) rfl ?_
            refine dp_if0 okX5_edge rfl (fun (c : x3 = (0 : Int32)) => ?_) (fun (c : ¬ x3 = (0 : Int32)) => ?_)
            · have h := dp_ip c h
              refine dp_blk okX5_edge 1 (S' := (61, [some (.inr (some 0)), some (.inl v1), some (.inl v2), some (.inl v3), none], [.inl (0 : Int32)], (hX s))) rfl ?_
              exact wj_X5_edge_61 s v1 v2 v3 (0 : Int32) _ h hk
            · have h := dp_ic c h
              refine dp_blk okX5_edge 2 (S' := (61, [some (.inr (some 0)), some (.inl v1), some (.inl v2), some (.inl v3), none], [.inl (1 : Int32)], (hX s))) rfl ?_
              exact wj_X5_edge_61 s v1 v2 v3 (1 : Int32) _ h hk
          · have h := dp_ip c h
            refine dp_blk okX5_edge 1 (S' := (43, [some (.inr (some 0)), some (.inl v1), some (.inl v2), some (.inl v3), none], [.inl (-3 : Int32)], (hX s))) rfl ?_
            cases h
            exact dp_iret okX5_edge rfl rfl hk
        · have h := dp_ic c h
          refine dp_blk okX5_edge 1 (S' := (35, [some (.inr (some 0)), some (.inl v1), some (.inl v2), some (.inl v3), none], [.inl (-2 : Int32)], (hX s))) rfl ?_
          cases h
          exact dp_iret okX5_edge rfl rfl hk
    · have h := dp_ip c h
      refine dp_blk okX5_edge 1 (S' := (23, [some (.inr (some 0)), some (.inl v1), some (.inl v2), some (.inl v3), none], [.inl (-1 : Int32)], (hX s))) rfl ?_
      cases h
      exact dp_iret okX5_edge rfl rfl hk
theorem c_X5_edge (s : dp_Z) (v1 v2 v3 : Int32) (o : (Int32 × dp_Z)) (h : j_X5_edge s v1 v2 v3 = some o) : dp_C 5 mX5_edge false [.inr (some 0), .inl v1, .inl v2, .inl v3] (hX s) 0 0 (dp_R (some (.inl o.1)) (hX o.2)) := dp_C_of okX5_edge [some (.inr (some 0)), some (.inl v1), some (.inl v2), some (.inl v3), none] rfl (Nat.le_of_ble_eq_true rfl) (we_X5_edge s v1 v2 v3 o h ⟨rfl, rfl⟩)
def j_X5_neighbours (s : dp_Z) (v1 : Int32) : Option Int32 := (dp_bd (j_X2_has s v1) fun x1 => (if x1 = (0 : Int32) then (some (-1 : Int32)) else (if dp_inb v1 12 = true then (some ((s.2 0) (v1).toNatClampNeg)) else none)))
set_option maxHeartbeats 1000000 in
set_option maxRecDepth 20000 in
theorem we_X5_neighbours {post : Option dp_V → dp_H → Prop} {h0 : dp_H} (s : dp_Z) (v1 : Int32) (o : Int32) (h : j_X5_neighbours s v1 = some o) (hk : post (some (.inl o)) (hX s)) : dp_W 1 mX5_neighbours false h0 0 0 post 0 0 (0, [some (.inr (some 0)), some (.inl v1)], [], (hX s)) := by
  unfold j_X5_neighbours at h
  refine dp_blk okX5_neighbours 3 (S' := (5, [some (.inr (some 0)), some (.inl v1)], [.inl v1, .inr (some 1)], (hX s))) rfl ?_
  obtain ⟨x1, hc, h⟩ := dp_bd_inv h
  refine dp_cV okX5_neighbours okX2_has (as := [.inl v1]) (r := []) rfl lk_NearLiars_52 npX2_has (c_X2_has s v1 x1 hc) rfl rfl rfl rfl (Nat.le_of_ble_eq_true rfl) (Nat.le_of_ble_eq_true rfl) (Nat.le_refl _) (Nat.le_refl _) ?_
  refine dp_blk okX5_neighbours 0 (S' := (8, [some (.inr (some 0)), some (.inl v1)], [.inl x1], (hX s))) rfl ?_
  refine dp_if0 okX5_neighbours rfl (fun (c : x1 = (0 : Int32)) => ?_) (fun (c : ¬ x1 = (0 : Int32)) => ?_)
  · have h := dp_ip c h
    refine dp_blk okX5_neighbours 1 (S' := (24, [some (.inr (some 0)), some (.inl v1)], [.inl (-1 : Int32)], (hX s))) rfl ?_
    cases h
    exact dp_iret okX5_neighbours rfl rfl hk
  · have h := dp_ic c h
    refine dp_blk okX5_neighbours 4 (S' := (19, [some (.inr (some 0)), some (.inl v1)], [.inl v1, .inr (some 2)], (hX s))) rfl ?_
    obtain ⟨hi, h⟩ := dp_ite h
    refine dp_ial (g := (s.2 0)) okX5_neighbours rfl rfl (dp_inb_in hi) ?_
    refine dp_blk okX5_neighbours 1 (S' := (24, [some (.inr (some 0)), some (.inl v1)], [.inl ((s.2 0) (v1).toNatClampNeg)], (hX s))) rfl ?_
    cases h
    exact dp_iret okX5_neighbours rfl rfl hk
theorem c_X5_neighbours (s : dp_Z) (v1 : Int32) (o : Int32) (h : j_X5_neighbours s v1 = some o) : dp_C 1 mX5_neighbours false [.inr (some 0), .inl v1] (hX s) 0 0 (dp_R (some (.inl o)) (hX s)) := dp_C_of okX5_neighbours [some (.inr (some 0)), some (.inl v1)] rfl (Nat.le_of_ble_eq_true rfl) (we_X5_neighbours s v1 o h ⟨rfl, rfl⟩)
def j_X5_dealer (s : dp_Z) (v1 v2 : Int32) : Option (Int32 × dp_Z) := (dp_bd (j_X2_has s v1) fun x1 => (if x1 = (0 : Int32) then (some ((-1 : Int32), s)) else (dp_bd (j_X5_isValue v2) fun x2 => (if x2 = (0 : Int32) then (some ((-2 : Int32), s)) else (dp_bd (some (dp_sf s 3 v1)) fun s3 => (dp_bd (some (dp_sf s3 4 v2)) fun s4 => (if dp_inb v1 12 = true then (dp_bd (some (dp_sr s4 1 (upd (s4.2 1) (v1).toNatClampNeg (-9 : Int32)))) fun s5 => (dp_bd (j_X0_forget s5) fun x6 => (dp_bd (j_X3_restart x6) fun x7 => (some ((s.1 3), x7))))) else none)))))))
set_option maxHeartbeats 1000000 in
set_option maxRecDepth 20000 in
theorem we_X5_dealer {post : Option dp_V → dp_H → Prop} {h0 : dp_H} (s : dp_Z) (v1 v2 : Int32) (o : (Int32 × dp_Z)) (h : j_X5_dealer s v1 v2 = some o) (hk : post (some (.inl o.1)) (hX o.2)) : dp_W 5 mX5_dealer false h0 0 0 post 0 0 (0, [some (.inr (some 0)), some (.inl v1), some (.inl v2), none], [], (hX s)) := by
  unfold j_X5_dealer at h
  refine dp_blk okX5_dealer 3 (S' := (5, [some (.inr (some 0)), some (.inl v1), some (.inl v2), none], [.inl v1, .inr (some 1)], (hX s))) rfl ?_
  obtain ⟨x1, hc, h⟩ := dp_bd_inv h
  refine dp_cV okX5_dealer okX2_has (as := [.inl v1]) (r := []) rfl lk_NearLiars_52 npX2_has (c_X2_has s v1 x1 hc) rfl rfl rfl rfl (Nat.le_of_ble_eq_true rfl) (Nat.le_of_ble_eq_true rfl) (Nat.le_refl _) (Nat.le_refl _) ?_
  refine dp_blk okX5_dealer 0 (S' := (8, [some (.inr (some 0)), some (.inl v1), some (.inl v2), none], [.inl x1], (hX s))) rfl ?_
  refine dp_if0 okX5_dealer rfl (fun (c : ¬ x1 = (0 : Int32)) => ?_) (fun (c : x1 = (0 : Int32)) => ?_)
  · have h := dp_ic c h
    refine dp_blk okX5_dealer 1 (S' := (14, [some (.inr (some 0)), some (.inl v1), some (.inl v2), none], [.inl v2], (hX s))) rfl ?_
    obtain ⟨x2, hc, h⟩ := dp_bd_inv h
    refine dp_cS okX5_dealer okX5_isValue (as := [.inl v2]) (r := []) rfl lk_NearLiars_71 npX5_isValue (c_X5_isValue (hX s) v2 x2 hc) rfl (Nat.le_of_ble_eq_true rfl) (Nat.le_of_ble_eq_true rfl) (Nat.le_refl _) (Nat.le_refl _) ?_
    refine dp_blk okX5_dealer 0 (S' := (17, [some (.inr (some 0)), some (.inl v1), some (.inl v2), none], [.inl x2], (hX s))) rfl ?_
    refine dp_if0 okX5_dealer rfl (fun (c : ¬ x2 = (0 : Int32)) => ?_) (fun (c : x2 = (0 : Int32)) => ?_)
    · have h := dp_ic c h
      refine dp_blk okX5_dealer 7 (S' := (36, [some (.inr (some 0)), some (.inl v1), some (.inl v2), some (.inl (s.1 3))], [.inl v1, .inr (some 1)], (hX s))) rfl ?_
      obtain ⟨s3, hs, h⟩ := dp_bd_inv h
      have hs := Option.some.inj hs
      refine dp_pfe okX5_dealer rfl (by decide) (qhX_1 s) (Nat.le_of_ble_eq_true rfl) ((phX_3 s v1).trans (congrArg hX hs)) ?_
      refine dp_blk okX5_dealer 3 (S' := (44, [some (.inr (some 0)), some (.inl v1), some (.inl v2), some (.inl (s.1 3))], [.inl v2, .inr (some 1)], (hX s3))) rfl ?_
      obtain ⟨s4, hs, h⟩ := dp_bd_inv h
      have hs := Option.some.inj hs
      refine dp_pfe okX5_dealer rfl (by decide) (qhX_1 s3) (Nat.le_of_ble_eq_true rfl) ((phX_4 s3 v2).trans (congrArg hX hs)) ?_
      refine dp_blk okX5_dealer 5 (S' := (57, [some (.inr (some 0)), some (.inl v1), some (.inl v2), some (.inl (s.1 3))], [.inl (-9 : Int32), .inl v1, .inr (some 3)], (hX s4))) rfl ?_
      obtain ⟨hi, h⟩ := dp_ite h
      obtain ⟨s5, hs, h⟩ := dp_bd_inv h
      have hs := Option.some.inj hs
      refine dp_iase (g := (s4.2 1)) okX5_dealer rfl rfl (dp_inb_in hi) ((ahX_1 s4 _).trans (congrArg hX hs)) ?_
      refine dp_blk okX5_dealer 2 (S' := (62, [some (.inr (some 0)), some (.inl v1), some (.inl v2), some (.inl (s.1 3))], [.inr (some 12)], (hX s5))) rfl ?_
      obtain ⟨x6, hc, h⟩ := dp_bd_inv h
      refine dp_cV okX5_dealer okX0_forget (as := []) (r := []) rfl lk_NearLiars_64 npX0_forget (c_X0_forget s5 x6 hc) rfl rfl rfl rfl (Nat.le_of_ble_eq_true rfl) (Nat.le_of_ble_eq_true rfl) (Nat.le_refl _) (Nat.le_refl _) ?_
      refine dp_blk okX5_dealer 4 (S' := (73, [some (.inr (some 0)), some (.inl v1), some (.inl v2), some (.inl (s.1 3))], [.inr (some 1), .inr (some 4)], (hX x6))) rfl ?_
      obtain ⟨x7, hc, h⟩ := dp_bd_inv h
      refine dp_cV okX5_dealer okX3_restart (as := [.inr (some 1)]) (r := []) rfl lk_NearLiars_44 npX3_restart (c_X3_restart x6 x7 hc) rfl rfl rfl rfl (Nat.le_of_ble_eq_true rfl) (Nat.le_of_ble_eq_true rfl) (Nat.le_refl _) (Nat.le_refl _) ?_
      refine dp_blk okX5_dealer 1 (S' := (77, [some (.inr (some 0)), some (.inl v1), some (.inl v2), some (.inl (s.1 3))], [.inl (s.1 3)], (hX x7))) rfl ?_
      cases h
      exact dp_iret okX5_dealer rfl rfl hk
    · have h := dp_ip c h
      refine dp_blk okX5_dealer 1 (S' := (22, [some (.inr (some 0)), some (.inl v1), some (.inl v2), none], [.inl (-2 : Int32)], (hX s))) rfl ?_
      cases h
      exact dp_iret okX5_dealer rfl rfl hk
  · have h := dp_ip c h
    refine dp_blk okX5_dealer 1 (S' := (12, [some (.inr (some 0)), some (.inl v1), some (.inl v2), none], [.inl (-1 : Int32)], (hX s))) rfl ?_
    cases h
    exact dp_iret okX5_dealer rfl rfl hk
theorem c_X5_dealer (s : dp_Z) (v1 v2 : Int32) (o : (Int32 × dp_Z)) (h : j_X5_dealer s v1 v2 = some o) : dp_C 5 mX5_dealer false [.inr (some 0), .inl v1, .inl v2] (hX s) 0 0 (dp_R (some (.inl o.1)) (hX o.2)) := dp_C_of okX5_dealer [some (.inr (some 0)), some (.inl v1), some (.inl v2), none] rfl (Nat.le_of_ble_eq_true rfl) (we_X5_dealer s v1 v2 o h ⟨rfl, rfl⟩)
def j_X5_need (s : dp_Z) (v1 : Int32) : Option (Int32 × dp_Z) := (if v1 < (1 : Int32) then (some ((-2 : Int32), s)) else (if v1 ≤ (6 : Int32) then (dp_bd (some (dp_sf s 5 v1)) fun s1 => (dp_bd (j_X3_restart s1) fun x2 => (some ((s.1 5), x2)))) else (some ((-2 : Int32), s))))
set_option maxHeartbeats 1000000 in
set_option maxRecDepth 20000 in
theorem we_X5_need {post : Option dp_V → dp_H → Prop} {h0 : dp_H} (s : dp_Z) (v1 : Int32) (o : (Int32 × dp_Z)) (h : j_X5_need s v1 = some o) (hk : post (some (.inl o.1)) (hX o.2)) : dp_W 5 mX5_need false h0 0 0 post 0 0 (0, [some (.inr (some 0)), some (.inl v1), none], [], (hX s)) := by
  unfold j_X5_need at h
  refine dp_blk okX5_need 2 (S' := (2, [some (.inr (some 0)), some (.inl v1), none], [.inl (1 : Int32), .inl v1], (hX s))) rfl ?_
  refine dp_if okX5_need rfl (fun (c : v1 < (1 : Int32)) => ?_) (fun (c : ¬ v1 < (1 : Int32)) => ?_)
  · have h := dp_ip c h
    refine dp_blk okX5_need 1 (S' := (13, [some (.inr (some 0)), some (.inl v1), none], [.inl (-2 : Int32)], (hX s))) rfl ?_
    cases h
    exact dp_iret okX5_need rfl rfl hk
  · have h := dp_ic c h
    refine dp_blk okX5_need 2 (S' := (8, [some (.inr (some 0)), some (.inl v1), none], [.inl (6 : Int32), .inl v1], (hX s))) rfl ?_
    refine dp_if okX5_need rfl (fun (c : v1 ≤ (6 : Int32)) => ?_) (fun (c : ¬ v1 ≤ (6 : Int32)) => ?_)
    · have h := dp_ip c h
      refine dp_blk okX5_need 7 (S' := (27, [some (.inr (some 0)), some (.inl v1), some (.inl (s.1 5))], [.inl v1, .inr (some 1)], (hX s))) rfl ?_
      obtain ⟨s1, hs, h⟩ := dp_bd_inv h
      have hs := Option.some.inj hs
      refine dp_pfe okX5_need rfl (by decide) (qhX_1 s) (Nat.le_of_ble_eq_true rfl) ((phX_5 s v1).trans (congrArg hX hs)) ?_
      refine dp_blk okX5_need 4 (S' := (38, [some (.inr (some 0)), some (.inl v1), some (.inl (s.1 5))], [.inr (some 1), .inr (some 4)], (hX s1))) rfl ?_
      obtain ⟨x2, hc, h⟩ := dp_bd_inv h
      refine dp_cV okX5_need okX3_restart (as := [.inr (some 1)]) (r := []) rfl lk_NearLiars_44 npX3_restart (c_X3_restart s1 x2 hc) rfl rfl rfl rfl (Nat.le_of_ble_eq_true rfl) (Nat.le_of_ble_eq_true rfl) (Nat.le_refl _) (Nat.le_refl _) ?_
      refine dp_blk okX5_need 1 (S' := (42, [some (.inr (some 0)), some (.inl v1), some (.inl (s.1 5))], [.inl (s.1 5)], (hX x2))) rfl ?_
      cases h
      exact dp_iret okX5_need rfl rfl hk
    · have h := dp_ic c h
      refine dp_blk okX5_need 1 (S' := (13, [some (.inr (some 0)), some (.inl v1), none], [.inl (-2 : Int32)], (hX s))) rfl ?_
      cases h
      exact dp_iret okX5_need rfl rfl hk
theorem c_X5_need (s : dp_Z) (v1 : Int32) (o : (Int32 × dp_Z)) (h : j_X5_need s v1 = some o) : dp_C 5 mX5_need false [.inr (some 0), .inl v1] (hX s) 0 0 (dp_R (some (.inl o.1)) (hX o.2)) := dp_C_of okX5_need [some (.inr (some 0)), some (.inl v1), none] rfl (Nat.le_of_ble_eq_true rfl) (we_X5_need s v1 o h ⟨rfl, rfl⟩)
def jj_X5_lie_34 (s : dp_Z) (v1 v2 : Int32) : Option (Int32 × dp_Z) := (if v1 = (s.1 3) then (some ((-3 : Int32), s)) else (if dp_inb v1 12 = true then (if dp_inb v1 12 = true then (dp_bd (some (dp_sr s 1 (upd (s.2 1) (v1).toNatClampNeg v2))) fun s3 => (dp_bd (j_X3_restart s3) fun x4 => (some (((s.2 1) (v1).toNatClampNeg), x4)))) else none) else none))
set_option maxHeartbeats 1000000 in
set_option maxRecDepth 20000 in
theorem wj_X5_lie_34 {post : Option dp_V → dp_H → Prop} {h0 : dp_H} (s : dp_Z) (v1 v2 : Int32) (o : (Int32 × dp_Z)) (h : jj_X5_lie_34 s v1 v2 = some o) (hk : post (some (.inl o.1)) (hX o.2)) : dp_W 5 mX5_lie false h0 0 0 post 0 0 (34, [some (.inr (some 0)), some (.inl v1), some (.inl v2), none], [], (hX s)) := by
  unfold jj_X5_lie_34 at h
  refine dp_blk okX5_lie 4 (S' := (42, [some (.inr (some 0)), some (.inl v1), some (.inl v2), none], [.inl (s.1 3), .inl v1], (hX s))) rfl ?_
  refine dp_if okX5_lie rfl (fun (c : ¬ v1 = (s.1 3)) => ?_) (fun (c : v1 = (s.1 3)) => ?_)
  · have h := dp_ic c h
    refine dp_blk okX5_lie 4 (S' := (56, [some (.inr (some 0)), some (.inl v1), some (.inl v2), none], [.inl v1, .inr (some 3)], (hX s))) rfl ?_
    obtain ⟨hi, h⟩ := dp_ite h
    refine dp_ial (g := (s.2 1)) okX5_lie rfl rfl (dp_inb_in hi) ?_
    refine dp_blk okX5_lie 6 (S' := (67, [some (.inr (some 0)), some (.inl v1), some (.inl v2), some (.inl ((s.2 1) (v1).toNatClampNeg))], [.inl v2, .inl v1, .inr (some 3)], (hX s))) rfl ?_
    obtain ⟨hi, h⟩ := dp_ite h
    obtain ⟨s3, hs, h⟩ := dp_bd_inv h
    have hs := Option.some.inj hs
    refine dp_iase (g := (s.2 1)) okX5_lie rfl rfl (dp_inb_in hi) ((ahX_1 s _).trans (congrArg hX hs)) ?_
    refine dp_blk okX5_lie 4 (S' := (76, [some (.inr (some 0)), some (.inl v1), some (.inl v2), some (.inl ((s.2 1) (v1).toNatClampNeg))], [.inr (some 1), .inr (some 4)], (hX s3))) rfl ?_
    obtain ⟨x4, hc, h⟩ := dp_bd_inv h
    refine dp_cV okX5_lie okX3_restart (as := [.inr (some 1)]) (r := []) rfl lk_NearLiars_44 npX3_restart (c_X3_restart s3 x4 hc) rfl rfl rfl rfl (Nat.le_of_ble_eq_true rfl) (Nat.le_of_ble_eq_true rfl) (Nat.le_refl _) (Nat.le_refl _) ?_
    refine dp_blk okX5_lie 1 (S' := (80, [some (.inr (some 0)), some (.inl v1), some (.inl v2), some (.inl ((s.2 1) (v1).toNatClampNeg))], [.inl ((s.2 1) (v1).toNatClampNeg)], (hX x4))) rfl ?_
    cases h
    exact dp_iret okX5_lie rfl rfl hk
  · have h := dp_ip c h
    refine dp_blk okX5_lie 1 (S' := (47, [some (.inr (some 0)), some (.inl v1), some (.inl v2), none], [.inl (-3 : Int32)], (hX s))) rfl ?_
    cases h
    exact dp_iret okX5_lie rfl rfl hk
def j_X5_lie (s : dp_Z) (v1 v2 : Int32) : Option (Int32 × dp_Z) := (dp_bd (j_X2_has s v1) fun x1 => (if x1 = (0 : Int32) then (some ((-1 : Int32), s)) else (dp_bd (j_X5_isValue v2) fun x2 => (if x2 = (0 : Int32) then (if v2 = (4 : Int32) then (jj_X5_lie_34 s v1 v2) else (if v2 = (-9 : Int32) then (jj_X5_lie_34 s v1 v2) else (some ((-2 : Int32), s)))) else (jj_X5_lie_34 s v1 v2)))))
set_option maxHeartbeats 1000000 in
set_option maxRecDepth 20000 in
theorem we_X5_lie {post : Option dp_V → dp_H → Prop} {h0 : dp_H} (s : dp_Z) (v1 v2 : Int32) (o : (Int32 × dp_Z)) (h : j_X5_lie s v1 v2 = some o) (hk : post (some (.inl o.1)) (hX o.2)) : dp_W 5 mX5_lie false h0 0 0 post 0 0 (0, [some (.inr (some 0)), some (.inl v1), some (.inl v2), none], [], (hX s)) := by
  unfold j_X5_lie at h
  refine dp_blk okX5_lie 3 (S' := (5, [some (.inr (some 0)), some (.inl v1), some (.inl v2), none], [.inl v1, .inr (some 1)], (hX s))) rfl ?_
  obtain ⟨x1, hc, h⟩ := dp_bd_inv h
  refine dp_cV okX5_lie okX2_has (as := [.inl v1]) (r := []) rfl lk_NearLiars_52 npX2_has (c_X2_has s v1 x1 hc) rfl rfl rfl rfl (Nat.le_of_ble_eq_true rfl) (Nat.le_of_ble_eq_true rfl) (Nat.le_refl _) (Nat.le_refl _) ?_
  refine dp_blk okX5_lie 0 (S' := (8, [some (.inr (some 0)), some (.inl v1), some (.inl v2), none], [.inl x1], (hX s))) rfl ?_
  refine dp_if0 okX5_lie rfl (fun (c : ¬ x1 = (0 : Int32)) => ?_) (fun (c : x1 = (0 : Int32)) => ?_)
  · have h := dp_ic c h
    refine dp_blk okX5_lie 1 (S' := (14, [some (.inr (some 0)), some (.inl v1), some (.inl v2), none], [.inl v2], (hX s))) rfl ?_
    obtain ⟨x2, hc, h⟩ := dp_bd_inv h
    refine dp_cS okX5_lie okX5_isValue (as := [.inl v2]) (r := []) rfl lk_NearLiars_71 npX5_isValue (c_X5_isValue (hX s) v2 x2 hc) rfl (Nat.le_of_ble_eq_true rfl) (Nat.le_of_ble_eq_true rfl) (Nat.le_refl _) (Nat.le_refl _) ?_
    refine dp_blk okX5_lie 0 (S' := (17, [some (.inr (some 0)), some (.inl v1), some (.inl v2), none], [.inl x2], (hX s))) rfl ?_
    refine dp_if0 okX5_lie rfl (fun (c : ¬ x2 = (0 : Int32)) => ?_) (fun (c : x2 = (0 : Int32)) => ?_)
    · have h := dp_ic c h
      refine dp_blk okX5_lie 0 (S' := (34, [some (.inr (some 0)), some (.inl v1), some (.inl v2), none], [], (hX s))) rfl ?_
      exact wj_X5_lie_34 s v1 v2 _ h hk
    · have h := dp_ip c h
      refine dp_blk okX5_lie 2 (S' := (22, [some (.inr (some 0)), some (.inl v1), some (.inl v2), none], [.inl (4 : Int32), .inl v2], (hX s))) rfl ?_
      refine dp_if okX5_lie rfl (fun (c : v2 = (4 : Int32)) => ?_) (fun (c : ¬ v2 = (4 : Int32)) => ?_)
      · have h := dp_ip c h
        refine dp_blk okX5_lie 0 (S' := (34, [some (.inr (some 0)), some (.inl v1), some (.inl v2), none], [], (hX s))) rfl ?_
        exact wj_X5_lie_34 s v1 v2 _ h hk
      · have h := dp_ic c h
        refine dp_blk okX5_lie 2 (S' := (28, [some (.inr (some 0)), some (.inl v1), some (.inl v2), none], [.inl (-9 : Int32), .inl v2], (hX s))) rfl ?_
        refine dp_if okX5_lie rfl (fun (c : v2 = (-9 : Int32)) => ?_) (fun (c : ¬ v2 = (-9 : Int32)) => ?_)
        · have h := dp_ip c h
          refine dp_blk okX5_lie 0 (S' := (34, [some (.inr (some 0)), some (.inl v1), some (.inl v2), none], [], (hX s))) rfl ?_
          exact wj_X5_lie_34 s v1 v2 _ h hk
        · have h := dp_ic c h
          refine dp_blk okX5_lie 1 (S' := (33, [some (.inr (some 0)), some (.inl v1), some (.inl v2), none], [.inl (-2 : Int32)], (hX s))) rfl ?_
          cases h
          exact dp_iret okX5_lie rfl rfl hk
  · have h := dp_ip c h
    refine dp_blk okX5_lie 1 (S' := (12, [some (.inr (some 0)), some (.inl v1), some (.inl v2), none], [.inl (-1 : Int32)], (hX s))) rfl ?_
    cases h
    exact dp_iret okX5_lie rfl rfl hk
theorem c_X5_lie (s : dp_Z) (v1 v2 : Int32) (o : (Int32 × dp_Z)) (h : j_X5_lie s v1 v2 = some o) : dp_C 5 mX5_lie false [.inr (some 0), .inl v1, .inl v2] (hX s) 0 0 (dp_R (some (.inl o.1)) (hX o.2)) := dp_C_of okX5_lie [some (.inr (some 0)), some (.inl v1), some (.inl v2), none] rfl (Nat.le_of_ble_eq_true rfl) (we_X5_lie s v1 v2 o h ⟨rfl, rfl⟩)
def j_X5_begin (s : dp_Z) : Option (Int32 × dp_Z) := (dp_bd (j_X3_restart s) fun x1 => (some ((s.1 7), x1)))
set_option maxHeartbeats 1000000 in
set_option maxRecDepth 20000 in
theorem we_X5_begin {post : Option dp_V → dp_H → Prop} {h0 : dp_H} (s : dp_Z) (o : (Int32 × dp_Z)) (h : j_X5_begin s = some o) (hk : post (some (.inl o.1)) (hX o.2)) : dp_W 5 mX5_begin false h0 0 0 post 0 0 (0, [some (.inr (some 0)), none], [], (hX s)) := by
  unfold j_X5_begin at h
  refine dp_blk okX5_begin 8 (S' := (16, [some (.inr (some 0)), some (.inl (s.1 7))], [.inr (some 1), .inr (some 4)], (hX s))) rfl ?_
  obtain ⟨x1, hc, h⟩ := dp_bd_inv h
  refine dp_cV okX5_begin okX3_restart (as := [.inr (some 1)]) (r := []) rfl lk_NearLiars_44 npX3_restart (c_X3_restart s x1 hc) rfl rfl rfl rfl (Nat.le_of_ble_eq_true rfl) (Nat.le_of_ble_eq_true rfl) (Nat.le_refl _) (Nat.le_refl _) ?_
  refine dp_blk okX5_begin 1 (S' := (20, [some (.inr (some 0)), some (.inl (s.1 7))], [.inl (s.1 7)], (hX x1))) rfl ?_
  cases h
  exact dp_iret okX5_begin rfl rfl hk
theorem c_X5_begin (s : dp_Z) (o : (Int32 × dp_Z)) (h : j_X5_begin s = some o) : dp_C 5 mX5_begin false [.inr (some 0)] (hX s) 0 0 (dp_R (some (.inl o.1)) (hX o.2)) := dp_C_of okX5_begin [some (.inr (some 0)), none] rfl (Nat.le_of_ble_eq_true rfl) (we_X5_begin s o h ⟨rfl, rfl⟩)
def jb_X5_ticks_17 (v1 : Int32) (x : (dp_Z × Int32 × Int32)) : Option ((dp_Z × Int32 × Int32) ⊕ (dp_Z × Int32)) := (if v1 ≤ x.2.2 then (some (.inr (x.1, x.2.1))) else (dp_bd (j_X3_pass x.1) fun x1 => (some (.inl (x1.2, (x.2.1 + x1.1), (x.2.2 + (1 : Int32)))))))
set_option maxHeartbeats 1000000 in
set_option maxRecDepth 20000 in
theorem wl_X5_ticks_17 {post : Option dp_V → dp_H → Prop} {h0 : dp_H} (v1 : Int32) (x : (dp_Z × Int32 × Int32)) (o : ((dp_Z × Int32 × Int32) ⊕ (dp_Z × Int32))) (h : jb_X5_ticks_17 v1 x = some o) (hk : dp_LK (fun x : (dp_Z × Int32 × Int32) => dp_W 4 mX5_ticks false h0 0 0 post 0 0 (17, [some (.inr (some 0)), some (.inl v1), some (.inl x.2.1), some (.inl x.2.2)], [], (hX x.1))) (fun x : (dp_Z × Int32) => dp_W 4 mX5_ticks false h0 0 0 post 0 0 (42, [none, none, some (.inl x.2), none], [], (hX x.1))) o) : dp_W 4 mX5_ticks false h0 0 0 post 0 0 (17, [some (.inr (some 0)), some (.inl v1), some (.inl x.2.1), some (.inl x.2.2)], [], (hX x.1)) := by
  unfold jb_X5_ticks_17 at h
  refine dp_blk okX5_ticks 2 (S' := (19, [some (.inr (some 0)), some (.inl v1), some (.inl x.2.1), some (.inl x.2.2)], [.inl v1, .inl x.2.2], (hX x.1))) rfl ?_
  refine dp_if okX5_ticks rfl (fun (c : v1 ≤ x.2.2) => ?_) (fun (c : ¬ v1 ≤ x.2.2) => ?_)
  · have h := dp_ip c h
    refine dp_blk okX5_ticks 0 (S' := (42, [some (.inr (some 0)), some (.inl v1), some (.inl x.2.1), some (.inl x.2.2)], [], (hX x.1))) rfl ?_
    cases h
    refine dp_fg [false, false, true, false] (L' := [none, none, some (.inl x.2.1), none]) rfl rfl ?_
    exact hk
  · have h := dp_ic c h
    refine dp_blk okX5_ticks 5 (S' := (31, [some (.inr (some 0)), some (.inl v1), some (.inl x.2.1), some (.inl x.2.2)], [.inr (some 1), .inr (some 4), .inl x.2.1], (hX x.1))) rfl ?_
    obtain ⟨x1, hc, h⟩ := dp_bd_inv h
    refine dp_cV okX5_ticks okX3_pass (as := [.inr (some 1)]) (r := [.inl x.2.1]) rfl lk_NearLiars_90 npX3_pass (c_X3_pass x.1 x1 hc) rfl rfl rfl rfl (Nat.le_of_ble_eq_true rfl) (Nat.le_of_ble_eq_true rfl) (Nat.le_refl _) (Nat.le_refl _) ?_
    refine dp_blk okX5_ticks 4 (S' := (17, [some (.inr (some 0)), some (.inl v1), some (.inl (x.2.1 + x1.1)), some (.inl (x.2.2 + (1 : Int32)))], [], (hX x1.2))) rfl ?_
    cases h
    exact hk
def j_X5_ticks (s : dp_Z) (v1 : Int32) : Option (Int32 × dp_Z) := (if v1 < (0 : Int32) then (some ((-2 : Int32), s)) else (if v1 ≤ (100 : Int32) then (dp_bd (dp_loop (jb_X5_ticks_17 v1) dp_F (s, (0 : Int32), (0 : Int32))) fun x2 => (some (x2.2, x2.1))) else (some ((-2 : Int32), s))))
set_option maxHeartbeats 1000000 in
set_option maxRecDepth 20000 in
theorem we_X5_ticks {post : Option dp_V → dp_H → Prop} {h0 : dp_H} (s : dp_Z) (v1 : Int32) (o : (Int32 × dp_Z)) (h : j_X5_ticks s v1 = some o) (hk : post (some (.inl o.1)) (hX o.2)) : dp_W 4 mX5_ticks false h0 0 0 post 0 0 (0, [some (.inr (some 0)), some (.inl v1), none, none], [], (hX s)) := by
  unfold j_X5_ticks at h
  refine dp_blk okX5_ticks 1 (S' := (1, [some (.inr (some 0)), some (.inl v1), none, none], [.inl v1], (hX s))) rfl ?_
  refine dp_if0 okX5_ticks rfl (fun (c : v1 < (0 : Int32)) => ?_) (fun (c : ¬ v1 < (0 : Int32)) => ?_)
  · have h := dp_ip c h
    refine dp_blk okX5_ticks 1 (S' := (12, [some (.inr (some 0)), some (.inl v1), none, none], [.inl (-2 : Int32)], (hX s))) rfl ?_
    cases h
    exact dp_iret okX5_ticks rfl rfl hk
  · have h := dp_ic c h
    refine dp_blk okX5_ticks 2 (S' := (7, [some (.inr (some 0)), some (.inl v1), none, none], [.inl (100 : Int32), .inl v1], (hX s))) rfl ?_
    refine dp_if okX5_ticks rfl (fun (c : v1 ≤ (100 : Int32)) => ?_) (fun (c : ¬ v1 ≤ (100 : Int32)) => ?_)
    · have h := dp_ip c h
      refine dp_blk okX5_ticks 4 (S' := (17, [some (.inr (some 0)), some (.inl v1), some (.inl (0 : Int32)), some (.inl (0 : Int32))], [], (hX s))) rfl ?_
      obtain ⟨x2, hl, h⟩ := dp_bd_inv h
      refine dp_loopW (wl_X5_ticks_17 v1) dp_F (s, (0 : Int32), (0 : Int32)) x2 hl ?_
      show dp_W 4 mX5_ticks false h0 0 0 post 0 0 (42, [none, none, some (.inl x2.2), none], [], (hX x2.1))
      refine dp_blk okX5_ticks 1 (S' := (43, [none, none, some (.inl x2.2), none], [.inl x2.2], (hX x2.1))) rfl ?_
      cases h
      exact dp_iret okX5_ticks rfl rfl hk
    · have h := dp_ic c h
      refine dp_blk okX5_ticks 1 (S' := (12, [some (.inr (some 0)), some (.inl v1), none, none], [.inl (-2 : Int32)], (hX s))) rfl ?_
      cases h
      exact dp_iret okX5_ticks rfl rfl hk
theorem c_X5_ticks (s : dp_Z) (v1 : Int32) (o : (Int32 × dp_Z)) (h : j_X5_ticks s v1 = some o) : dp_C 4 mX5_ticks false [.inr (some 0), .inl v1] (hX s) 0 0 (dp_R (some (.inl o.1)) (hX o.2)) := dp_C_of okX5_ticks [some (.inr (some 0)), some (.inl v1), none, none] rfl (Nat.le_of_ble_eq_true rfl) (we_X5_ticks s v1 o h ⟨rfl, rfl⟩)
def jj_X5_node_38 (s : dp_Z) (v1 v2 : Int32) : Option Int32 := (if v2 = (0 : Int32) then (if dp_inb v1 12 = true then (some ((s.2 2) (v1).toNatClampNeg)) else none) else (if v2 = (1 : Int32) then (if dp_inb v1 12 = true then (some ((s.2 3) (v1).toNatClampNeg)) else none) else (if v2 = (2 : Int32) then (if dp_inb v1 12 = true then (some ((s.2 4) (v1).toNatClampNeg)) else none) else (if v2 = (3 : Int32) then (dp_bd (j_X3_heardInAll s v1) fun x2 => (some x2)) else (if v2 = (4 : Int32) then (some (((s.1 8) >>> (v1 &&& 31)) &&& (1 : Int32))) else (some (-2 : Int32)))))))
set_option maxHeartbeats 1000000 in
set_option maxRecDepth 20000 in
theorem wj_X5_node_38 {post : Option dp_V → dp_H → Prop} {h0 : dp_H} (s : dp_Z) (v1 v2 : Int32) (o : Int32) (h : jj_X5_node_38 s v1 v2 = some o) (hk : post (some (.inl o)) (hX s)) : dp_W 2 mX5_node false h0 0 0 post 0 0 (38, [some (.inr (some 0)), some (.inl v1), some (.inl v2)], [], (hX s)) := by
  unfold jj_X5_node_38 at h
  refine dp_blk okX5_node 1 (S' := (39, [some (.inr (some 0)), some (.inl v1), some (.inl v2)], [.inl v2], (hX s))) rfl ?_
  by_cases c0 : v2 = (0 : Int32)
  · have h := dp_ip c0 h
    refine dp_swI okX5_node (tgt := 72) rfl (by rw [c0]; exact ⟨by decide, by decide, rfl, by decide⟩) ?_
    refine dp_blk okX5_node 4 (S' := (80, [some (.inr (some 0)), some (.inl v1), some (.inl v2)], [.inl v1, .inr (some 5)], (hX s))) rfl ?_
    obtain ⟨hi, h⟩ := dp_ite h
    refine dp_ial (g := (s.2 2)) okX5_node rfl rfl (dp_inb_in hi) ?_
    refine dp_blk okX5_node 0 (S' := (81, [some (.inr (some 0)), some (.inl v1), some (.inl v2)], [.inl ((s.2 2) (v1).toNatClampNeg)], (hX s))) rfl ?_
    cases h
    exact dp_iret okX5_node rfl rfl hk
  have h := dp_ic c0 h
  by_cases c1 : v2 = (1 : Int32)
  · have h := dp_ip c1 h
    refine dp_swI okX5_node (tgt := 82) rfl (by rw [c1]; exact ⟨by decide, by decide, rfl, by decide⟩) ?_
    refine dp_blk okX5_node 4 (S' := (90, [some (.inr (some 0)), some (.inl v1), some (.inl v2)], [.inl v1, .inr (some 6)], (hX s))) rfl ?_
    obtain ⟨hi, h⟩ := dp_ite h
    refine dp_ial (g := (s.2 3)) okX5_node rfl rfl (dp_inb_in hi) ?_
    refine dp_blk okX5_node 0 (S' := (91, [some (.inr (some 0)), some (.inl v1), some (.inl v2)], [.inl ((s.2 3) (v1).toNatClampNeg)], (hX s))) rfl ?_
    cases h
    exact dp_iret okX5_node rfl rfl hk
  have h := dp_ic c1 h
  by_cases c2 : v2 = (2 : Int32)
  · have h := dp_ip c2 h
    refine dp_swI okX5_node (tgt := 92) rfl (by rw [c2]; exact ⟨by decide, by decide, rfl, by decide⟩) ?_
    refine dp_blk okX5_node 4 (S' := (100, [some (.inr (some 0)), some (.inl v1), some (.inl v2)], [.inl v1, .inr (some 7)], (hX s))) rfl ?_
    obtain ⟨hi, h⟩ := dp_ite h
    refine dp_ial (g := (s.2 4)) okX5_node rfl rfl (dp_inb_in hi) ?_
    refine dp_blk okX5_node 0 (S' := (101, [some (.inr (some 0)), some (.inl v1), some (.inl v2)], [.inl ((s.2 4) (v1).toNatClampNeg)], (hX s))) rfl ?_
    cases h
    exact dp_iret okX5_node rfl rfl hk
  have h := dp_ic c2 h
  by_cases c3 : v2 = (3 : Int32)
  · have h := dp_ip c3 h
    refine dp_swI okX5_node (tgt := 102) rfl (by rw [c3]; exact ⟨by decide, by decide, rfl, by decide⟩) ?_
    refine dp_blk okX5_node 3 (S' := (107, [some (.inr (some 0)), some (.inl v1), some (.inl v2)], [.inl v1, .inr (some 4)], (hX s))) rfl ?_
    obtain ⟨x2, hc, h⟩ := dp_bd_inv h
    refine dp_cV okX5_node okX3_heardInAll (as := [.inl v1]) (r := []) rfl lk_NearLiars_107 npX3_heardInAll (c_X3_heardInAll s v1 x2 hc) rfl rfl rfl rfl (Nat.le_of_ble_eq_true rfl) (Nat.le_of_ble_eq_true rfl) (Nat.le_refl _) (Nat.le_refl _) ?_
    refine dp_blk okX5_node 0 (S' := (110, [some (.inr (some 0)), some (.inl v1), some (.inl v2)], [.inl x2], (hX s))) rfl ?_
    cases h
    exact dp_iret okX5_node rfl rfl hk
  have h := dp_ic c3 h
  by_cases c4 : v2 = (4 : Int32)
  · have h := dp_ip c4 h
    refine dp_swI okX5_node (tgt := 111) rfl (by rw [c4]; exact ⟨by decide, by decide, rfl, by decide⟩) ?_
    refine dp_blk okX5_node 7 (S' := (122, [some (.inr (some 0)), some (.inl v1), some (.inl v2)], [.inl (((s.1 8) >>> (v1 &&& 31)) &&& (1 : Int32))], (hX s))) rfl ?_
    cases h
    exact dp_iret okX5_node rfl rfl hk
  have h := dp_ic c4 h
  refine dp_swO okX5_node (tgt := 123) rfl (dp_out 4 (by decide) (fun j hj => ?_)) (by decide) ?_
  · rcases (show j = 0 ∨ j = 1 ∨ j = 2 ∨ j = 3 ∨ j = 4 by omega) with rfl | rfl | rfl | rfl | rfl
    · exact c0
    · exact c1
    · exact c2
    · exact c3
    · exact c4
  refine dp_blk okX5_node 1 (S' := (125, [some (.inr (some 0)), some (.inl v1), some (.inl v2)], [.inl (-2 : Int32)], (hX s))) rfl ?_
  cases h
  exact dp_iret okX5_node rfl rfl hk
def j_X5_node (s : dp_Z) (v1 v2 : Int32) : Option Int32 := (dp_bd (j_X2_has s v1) fun x1 => (if x1 = (0 : Int32) then (some (-1 : Int32)) else (if v2 < (10 : Int32) then (jj_X5_node_38 s v1 v2) else (if (14 : Int32) ≤ v2 then (jj_X5_node_38 s v1 v2) else (dp_bd (j_X3_heardOf s v1 (v2 - (10 : Int32))) fun x3 => (some x3))))))
set_option maxHeartbeats 1000000 in
set_option maxRecDepth 20000 in
theorem we_X5_node {post : Option dp_V → dp_H → Prop} {h0 : dp_H} (s : dp_Z) (v1 v2 : Int32) (o : Int32) (h : j_X5_node s v1 v2 = some o) (hk : post (some (.inl o)) (hX s)) : dp_W 2 mX5_node false h0 0 0 post 0 0 (0, [some (.inr (some 0)), some (.inl v1), some (.inl v2)], [], (hX s)) := by
  unfold j_X5_node at h
  refine dp_blk okX5_node 3 (S' := (5, [some (.inr (some 0)), some (.inl v1), some (.inl v2)], [.inl v1, .inr (some 1)], (hX s))) rfl ?_
  obtain ⟨x1, hc, h⟩ := dp_bd_inv h
  refine dp_cV okX5_node okX2_has (as := [.inl v1]) (r := []) rfl lk_NearLiars_52 npX2_has (c_X2_has s v1 x1 hc) rfl rfl rfl rfl (Nat.le_of_ble_eq_true rfl) (Nat.le_of_ble_eq_true rfl) (Nat.le_refl _) (Nat.le_refl _) ?_
  refine dp_blk okX5_node 0 (S' := (8, [some (.inr (some 0)), some (.inl v1), some (.inl v2)], [.inl x1], (hX s))) rfl ?_
  refine dp_if0 okX5_node rfl (fun (c : ¬ x1 = (0 : Int32)) => ?_) (fun (c : x1 = (0 : Int32)) => ?_)
  · have h := dp_ic c h
    refine dp_blk okX5_node 2 (S' := (16, [some (.inr (some 0)), some (.inl v1), some (.inl v2)], [.inl (10 : Int32), .inl v2], (hX s))) rfl ?_
    refine dp_if okX5_node rfl (fun (c : v2 < (10 : Int32)) => ?_) (fun (c : ¬ v2 < (10 : Int32)) => ?_)
    · have h := dp_ip c h
      refine dp_blk okX5_node 0 (S' := (38, [some (.inr (some 0)), some (.inl v1), some (.inl v2)], [], (hX s))) rfl ?_
      exact wj_X5_node_38 s v1 v2 _ h hk
    · have h := dp_ic c h
      refine dp_blk okX5_node 2 (S' := (22, [some (.inr (some 0)), some (.inl v1), some (.inl v2)], [.inl (14 : Int32), .inl v2], (hX s))) rfl ?_
      refine dp_if okX5_node rfl (fun (c : (14 : Int32) ≤ v2) => ?_) (fun (c : ¬ (14 : Int32) ≤ v2) => ?_)
      · have h := dp_ip c h
        refine dp_blk okX5_node 0 (S' := (38, [some (.inr (some 0)), some (.inl v1), some (.inl v2)], [], (hX s))) rfl ?_
        exact wj_X5_node_38 s v1 v2 _ h hk
      · have h := dp_ic c h
        refine dp_blk okX5_node 6 (S' := (34, [some (.inr (some 0)), some (.inl v1), some (.inl v2)], [.inl (v2 - (10 : Int32)), .inl v1, .inr (some 4)], (hX s))) rfl ?_
        obtain ⟨x3, hc, h⟩ := dp_bd_inv h
        refine dp_cV okX5_node okX3_heardOf (as := [.inl v1, .inl (v2 - (10 : Int32))]) (r := []) rfl lk_NearLiars_94 npX3_heardOf (c_X3_heardOf s v1 (v2 - (10 : Int32)) x3 hc) rfl rfl rfl rfl (Nat.le_of_ble_eq_true rfl) (Nat.le_of_ble_eq_true rfl) (Nat.le_refl _) (Nat.le_refl _) ?_
        refine dp_blk okX5_node 0 (S' := (37, [some (.inr (some 0)), some (.inl v1), some (.inl v2)], [.inl x3], (hX s))) rfl ?_
        cases h
        exact dp_iret okX5_node rfl rfl hk
  · have h := dp_ip c h
    refine dp_blk okX5_node 1 (S' := (12, [some (.inr (some 0)), some (.inl v1), some (.inl v2)], [.inl (-1 : Int32)], (hX s))) rfl ?_
    cases h
    exact dp_iret okX5_node rfl rfl hk
theorem c_X5_node (s : dp_Z) (v1 v2 : Int32) (o : Int32) (h : j_X5_node s v1 v2 = some o) : dp_C 2 mX5_node false [.inr (some 0), .inl v1, .inl v2] (hX s) 0 0 (dp_R (some (.inl o)) (hX s)) := dp_C_of okX5_node [some (.inr (some 0)), some (.inl v1), some (.inl v2)] rfl (Nat.le_of_ble_eq_true rfl) (we_X5_node s v1 v2 o h ⟨rfl, rfl⟩)
def j_X5_band (s : dp_Z) (v1 v2 : Int32) : Option Int32 := (if v1 < (0 : Int32) then (some (-2 : Int32)) else (if v1 < (s.1 2) then (dp_bd (j_X2_row s v1) fun x1 => (dp_bd (j_X2_liars s) fun x2 => (if v2 = (0 : Int32) then (dp_bd (j_J6_bitCount_0f7a4 (x1 &&& (x2 ^^^ (-1 : Int32)))) fun x3 => (some x3)) else (if v2 = (1 : Int32) then (dp_bd (j_X3_right s (x1 &&& (x2 ^^^ (-1 : Int32)))) fun x4 => (some x4)) else (if v2 = (2 : Int32) then (dp_bd (j_X3_misled s (x1 &&& (x2 ^^^ (-1 : Int32)))) fun x5 => (some x5)) else (if v2 = (3 : Int32) then (dp_bd (j_X3_lastTake s (x1 &&& (x2 ^^^ (-1 : Int32)))) fun x6 => (some x6)) else (some (-2 : Int32)))))))) else (some (-2 : Int32))))
set_option maxHeartbeats 1000000 in
set_option maxRecDepth 20000 in
theorem we_X5_band {post : Option dp_V → dp_H → Prop} {h0 : dp_H} (s : dp_Z) (v1 v2 : Int32) (o : Int32) (h : j_X5_band s v1 v2 = some o) (hk : post (some (.inl o)) (hX s)) : dp_W 2 mX5_band false h0 0 0 post 0 0 (0, [some (.inr (some 0)), some (.inl v1), some (.inl v2), none], [], (hX s)) := by
  unfold j_X5_band at h
  refine dp_blk okX5_band 1 (S' := (1, [some (.inr (some 0)), some (.inl v1), some (.inl v2), none], [.inl v1], (hX s))) rfl ?_
  refine dp_if0 okX5_band rfl (fun (c : v1 < (0 : Int32)) => ?_) (fun (c : ¬ v1 < (0 : Int32)) => ?_)
  · have h := dp_ip c h
    refine dp_blk okX5_band 1 (S' := (17, [some (.inr (some 0)), some (.inl v1), some (.inl v2), none], [.inl (-2 : Int32)], (hX s))) rfl ?_
    cases h
    exact dp_iret okX5_band rfl rfl hk
  · have h := dp_ic c h
    refine dp_blk okX5_band 4 (S' := (12, [some (.inr (some 0)), some (.inl v1), some (.inl v2), none], [.inl (s.1 2), .inl v1], (hX s))) rfl ?_
    refine dp_if okX5_band rfl (fun (c : v1 < (s.1 2)) => ?_) (fun (c : ¬ v1 < (s.1 2)) => ?_)
    · have h := dp_ip c h
      refine dp_blk okX5_band 3 (S' := (23, [some (.inr (some 0)), some (.inl v1), some (.inl v2), none], [.inl v1, .inr (some 1)], (hX s))) rfl ?_
      obtain ⟨x1, hc, h⟩ := dp_bd_inv h
      refine dp_cV okX5_band okX2_row (as := [.inl v1]) (r := []) rfl lk_NearLiars_117 npX2_row (c_X2_row s v1 x1 hc) rfl rfl rfl rfl (Nat.le_of_ble_eq_true rfl) (Nat.le_of_ble_eq_true rfl) (Nat.le_refl _) (Nat.le_refl _) ?_
      refine dp_blk okX5_band 2 (S' := (30, [some (.inr (some 0)), some (.inl v1), some (.inl v2), none], [.inr (some 1), .inl x1], (hX s))) rfl ?_
      obtain ⟨x2, hc, h⟩ := dp_bd_inv h
      refine dp_cV okX5_band okX2_liars (as := []) (r := [.inl x1]) rfl lk_NearLiars_120 npX2_liars (c_X2_liars s x2 hc) rfl rfl rfl rfl (Nat.le_of_ble_eq_true rfl) (Nat.le_of_ble_eq_true rfl) (Nat.le_refl _) (Nat.le_refl _) ?_
      refine dp_blk okX5_band 5 (S' := (38, [some (.inr (some 0)), some (.inl v1), some (.inl v2), some (.inl (x1 &&& (x2 ^^^ (-1 : Int32))))], [.inl v2], (hX s))) rfl ?_
      by_cases c0 : v2 = (0 : Int32)
      · have h := dp_ip c0 h
        refine dp_swI okX5_band (tgt := 68) rfl (by rw [c0]; exact ⟨by decide, by decide, rfl, by decide⟩) ?_
        refine dp_blk okX5_band 1 (S' := (69, [some (.inr (some 0)), some (.inl v1), some (.inl v2), some (.inl (x1 &&& (x2 ^^^ (-1 : Int32))))], [.inl (x1 &&& (x2 ^^^ (-1 : Int32)))], (hX s))) rfl ?_
        obtain ⟨x3, hc, h⟩ := dp_bd_inv h
        refine dp_cS okX5_band okJ6_bitCount_0f7a4 (as := [.inl (x1 &&& (x2 ^^^ (-1 : Int32)))]) (r := []) rfl lk_NearLiars_124 npJ6_bitCount_0f7a4 (c_J6_bitCount_0f7a4 (hX s) (x1 &&& (x2 ^^^ (-1 : Int32))) x3 hc) rfl (Nat.le_of_ble_eq_true rfl) (Nat.le_of_ble_eq_true rfl) (Nat.le_refl _) (Nat.le_refl _) ?_
        refine dp_blk okX5_band 0 (S' := (72, [some (.inr (some 0)), some (.inl v1), some (.inl v2), some (.inl (x1 &&& (x2 ^^^ (-1 : Int32))))], [.inl x3], (hX s))) rfl ?_
        cases h
        exact dp_iret okX5_band rfl rfl hk
      have h := dp_ic c0 h
      by_cases c1 : v2 = (1 : Int32)
      · have h := dp_ip c1 h
        refine dp_swI okX5_band (tgt := 73) rfl (by rw [c1]; exact ⟨by decide, by decide, rfl, by decide⟩) ?_
        refine dp_blk okX5_band 5 (S' := (82, [some (.inr (some 0)), some (.inl v1), some (.inl v2), some (.inl (x1 &&& (x2 ^^^ (-1 : Int32))))], [.inl (x1 &&& (x2 ^^^ (-1 : Int32))), .inr (some 1), .inr (some 4)], (hX s))) rfl ?_
        obtain ⟨x4, hc, h⟩ := dp_bd_inv h
        refine dp_cV okX5_band okX3_right (as := [.inr (some 1), .inl (x1 &&& (x2 ^^^ (-1 : Int32)))]) (r := []) rfl lk_NearLiars_129 npX3_right (c_X3_right s (x1 &&& (x2 ^^^ (-1 : Int32))) x4 hc) rfl rfl rfl rfl (Nat.le_of_ble_eq_true rfl) (Nat.le_of_ble_eq_true rfl) (Nat.le_refl _) (Nat.le_refl _) ?_
        refine dp_blk okX5_band 0 (S' := (85, [some (.inr (some 0)), some (.inl v1), some (.inl v2), some (.inl (x1 &&& (x2 ^^^ (-1 : Int32))))], [.inl x4], (hX s))) rfl ?_
        cases h
        exact dp_iret okX5_band rfl rfl hk
      have h := dp_ic c1 h
      by_cases c2 : v2 = (2 : Int32)
      · have h := dp_ip c2 h
        refine dp_swI okX5_band (tgt := 86) rfl (by rw [c2]; exact ⟨by decide, by decide, rfl, by decide⟩) ?_
        refine dp_blk okX5_band 5 (S' := (95, [some (.inr (some 0)), some (.inl v1), some (.inl v2), some (.inl (x1 &&& (x2 ^^^ (-1 : Int32))))], [.inl (x1 &&& (x2 ^^^ (-1 : Int32))), .inr (some 1), .inr (some 4)], (hX s))) rfl ?_
        obtain ⟨x5, hc, h⟩ := dp_bd_inv h
        refine dp_cV okX5_band okX3_misled (as := [.inr (some 1), .inl (x1 &&& (x2 ^^^ (-1 : Int32)))]) (r := []) rfl lk_NearLiars_133 npX3_misled (c_X3_misled s (x1 &&& (x2 ^^^ (-1 : Int32))) x5 hc) rfl rfl rfl rfl (Nat.le_of_ble_eq_true rfl) (Nat.le_of_ble_eq_true rfl) (Nat.le_refl _) (Nat.le_refl _) ?_
        refine dp_blk okX5_band 0 (S' := (98, [some (.inr (some 0)), some (.inl v1), some (.inl v2), some (.inl (x1 &&& (x2 ^^^ (-1 : Int32))))], [.inl x5], (hX s))) rfl ?_
        cases h
        exact dp_iret okX5_band rfl rfl hk
      have h := dp_ic c2 h
      by_cases c3 : v2 = (3 : Int32)
      · have h := dp_ip c3 h
        refine dp_swI okX5_band (tgt := 99) rfl (by rw [c3]; exact ⟨by decide, by decide, rfl, by decide⟩) ?_
        refine dp_blk okX5_band 5 (S' := (108, [some (.inr (some 0)), some (.inl v1), some (.inl v2), some (.inl (x1 &&& (x2 ^^^ (-1 : Int32))))], [.inl (x1 &&& (x2 ^^^ (-1 : Int32))), .inr (some 1), .inr (some 4)], (hX s))) rfl ?_
        obtain ⟨x6, hc, h⟩ := dp_bd_inv h
        refine dp_cV okX5_band okX3_lastTake (as := [.inr (some 1), .inl (x1 &&& (x2 ^^^ (-1 : Int32)))]) (r := []) rfl lk_NearLiars_136 npX3_lastTake (c_X3_lastTake s (x1 &&& (x2 ^^^ (-1 : Int32))) x6 hc) rfl rfl rfl rfl (Nat.le_of_ble_eq_true rfl) (Nat.le_of_ble_eq_true rfl) (Nat.le_refl _) (Nat.le_refl _) ?_
        refine dp_blk okX5_band 0 (S' := (111, [some (.inr (some 0)), some (.inl v1), some (.inl v2), some (.inl (x1 &&& (x2 ^^^ (-1 : Int32))))], [.inl x6], (hX s))) rfl ?_
        cases h
        exact dp_iret okX5_band rfl rfl hk
      have h := dp_ic c3 h
      refine dp_swO okX5_band (tgt := 112) rfl (dp_out 3 (by decide) (fun j hj => ?_)) (by decide) ?_
      · rcases (show j = 0 ∨ j = 1 ∨ j = 2 ∨ j = 3 by omega) with rfl | rfl | rfl | rfl
        · exact c0
        · exact c1
        · exact c2
        · exact c3
      refine dp_blk okX5_band 1 (S' := (114, [some (.inr (some 0)), some (.inl v1), some (.inl v2), some (.inl (x1 &&& (x2 ^^^ (-1 : Int32))))], [.inl (-2 : Int32)], (hX s))) rfl ?_
      cases h
      exact dp_iret okX5_band rfl rfl hk
    · have h := dp_ic c h
      refine dp_blk okX5_band 1 (S' := (17, [some (.inr (some 0)), some (.inl v1), some (.inl v2), none], [.inl (-2 : Int32)], (hX s))) rfl ?_
      cases h
      exact dp_iret okX5_band rfl rfl hk
theorem c_X5_band (s : dp_Z) (v1 v2 : Int32) (o : Int32) (h : j_X5_band s v1 v2 = some o) : dp_C 2 mX5_band false [.inr (some 0), .inl v1, .inl v2] (hX s) 0 0 (dp_R (some (.inl o)) (hX s)) := dp_C_of okX5_band [some (.inr (some 0)), some (.inl v1), some (.inl v2), none] rfl (Nat.le_of_ble_eq_true rfl) (we_X5_band s v1 v2 o h ⟨rfl, rfl⟩)
def j_X5_sort (s : dp_Z) (v1 : Int32) : Option Int32 := (dp_bd (j_X2_isSet s v1) fun x1 => (if x1 = (0 : Int32) then (some (-2 : Int32)) else (dp_bd (j_X2_isThin s v1 (s.1 5)) fun x2 => (if x2 = (0 : Int32) then (some (0 : Int32)) else (dp_bd (j_X2_cut s v1 (s.1 5)) fun x3 => (if x3 = (0 : Int32) then (some (2 : Int32)) else (some (1 : Int32))))))))
set_option maxHeartbeats 1000000 in
set_option maxRecDepth 20000 in
theorem we_X5_sort {post : Option dp_V → dp_H → Prop} {h0 : dp_H} (s : dp_Z) (v1 : Int32) (o : Int32) (h : j_X5_sort s v1 = some o) (hk : post (some (.inl o)) (hX s)) : dp_W 4 mX5_sort false h0 0 0 post 0 0 (0, [some (.inr (some 0)), some (.inl v1)], [], (hX s)) := by
  unfold j_X5_sort at h
  refine dp_blk okX5_sort 3 (S' := (5, [some (.inr (some 0)), some (.inl v1)], [.inl v1, .inr (some 1)], (hX s))) rfl ?_
  obtain ⟨x1, hc, h⟩ := dp_bd_inv h
  refine dp_cV okX5_sort okX2_isSet (as := [.inl v1]) (r := []) rfl lk_NearLiars_139 npX2_isSet (c_X2_isSet s v1 x1 hc) rfl rfl rfl rfl (Nat.le_of_ble_eq_true rfl) (Nat.le_of_ble_eq_true rfl) (Nat.le_refl _) (Nat.le_refl _) ?_
  refine dp_blk okX5_sort 0 (S' := (8, [some (.inr (some 0)), some (.inl v1)], [.inl x1], (hX s))) rfl ?_
  refine dp_if0 okX5_sort rfl (fun (c : ¬ x1 = (0 : Int32)) => ?_) (fun (c : x1 = (0 : Int32)) => ?_)
  · have h := dp_ic c h
    refine dp_blk okX5_sort 6 (S' := (26, [some (.inr (some 0)), some (.inl v1)], [.inl (s.1 5), .inl v1, .inr (some 1)], (hX s))) rfl ?_
    obtain ⟨x2, hc, h⟩ := dp_bd_inv h
    refine dp_cV okX5_sort okX2_isThin (as := [.inl v1, .inl (s.1 5)]) (r := []) rfl lk_NearLiars_142 npX2_isThin (c_X2_isThin s v1 (s.1 5) x2 hc) rfl rfl rfl rfl (Nat.le_of_ble_eq_true rfl) (Nat.le_of_ble_eq_true rfl) (Nat.le_refl _) (Nat.le_refl _) ?_
    refine dp_blk okX5_sort 0 (S' := (29, [some (.inr (some 0)), some (.inl v1)], [.inl x2], (hX s))) rfl ?_
    refine dp_if0 okX5_sort rfl (fun (c : ¬ x2 = (0 : Int32)) => ?_) (fun (c : x2 = (0 : Int32)) => ?_)
    · have h := dp_ic c h
      refine dp_blk okX5_sort 6 (S' := (46, [some (.inr (some 0)), some (.inl v1)], [.inl (s.1 5), .inl v1, .inr (some 1)], (hX s))) rfl ?_
      obtain ⟨x3, hc, h⟩ := dp_bd_inv h
      refine dp_cV okX5_sort okX2_cut (as := [.inl v1, .inl (s.1 5)]) (r := []) rfl lk_NearLiars_145 npX2_cut (c_X2_cut s v1 (s.1 5) x3 hc) rfl rfl rfl rfl (Nat.le_of_ble_eq_true rfl) (Nat.le_of_ble_eq_true rfl) (Nat.le_refl _) (Nat.le_refl _) ?_
      refine dp_blk okX5_sort 0 (S' := (49, [some (.inr (some 0)), some (.inl v1)], [.inl x3], (hX s))) rfl ?_
      refine dp_if0 okX5_sort rfl (fun (c : x3 = (0 : Int32)) => ?_) (fun (c : ¬ x3 = (0 : Int32)) => ?_)
      · have h := dp_ip c h
        refine dp_blk okX5_sort 1 (S' := (57, [some (.inr (some 0)), some (.inl v1)], [.inl (2 : Int32)], (hX s))) rfl ?_
        cases h
        exact dp_iret okX5_sort rfl rfl hk
      · have h := dp_ic c h
        refine dp_blk okX5_sort 2 (S' := (57, [some (.inr (some 0)), some (.inl v1)], [.inl (1 : Int32)], (hX s))) rfl ?_
        cases h
        exact dp_iret okX5_sort rfl rfl hk
    · have h := dp_ip c h
      refine dp_blk okX5_sort 1 (S' := (33, [some (.inr (some 0)), some (.inl v1)], [.inl (0 : Int32)], (hX s))) rfl ?_
      cases h
      exact dp_iret okX5_sort rfl rfl hk
  · have h := dp_ip c h
    refine dp_blk okX5_sort 1 (S' := (13, [some (.inr (some 0)), some (.inl v1)], [.inl (-2 : Int32)], (hX s))) rfl ?_
    cases h
    exact dp_iret okX5_sort rfl rfl hk
theorem c_X5_sort (s : dp_Z) (v1 : Int32) (o : Int32) (h : j_X5_sort s v1 = some o) : dp_C 4 mX5_sort false [.inr (some 0), .inl v1] (hX s) 0 0 (dp_R (some (.inl o)) (hX s)) := dp_C_of okX5_sort [some (.inr (some 0)), some (.inl v1)] rfl (Nat.le_of_ble_eq_true rfl) (we_X5_sort s v1 o h ⟨rfl, rfl⟩)
def j_X5_crowded (s : dp_Z) (v1 : Int32) : Option Int32 := (dp_bd (j_X2_isSet s v1) fun x1 => (if x1 = (0 : Int32) then (some (-2 : Int32)) else (dp_bd (j_X2_leastCrowded s v1 (s.1 5)) fun x2 => (some x2))))
set_option maxHeartbeats 1000000 in
set_option maxRecDepth 20000 in
theorem we_X5_crowded {post : Option dp_V → dp_H → Prop} {h0 : dp_H} (s : dp_Z) (v1 : Int32) (o : Int32) (h : j_X5_crowded s v1 = some o) (hk : post (some (.inl o)) (hX s)) : dp_W 2 mX5_crowded false h0 0 0 post 0 0 (0, [some (.inr (some 0)), some (.inl v1)], [], (hX s)) := by
  unfold j_X5_crowded at h
  refine dp_blk okX5_crowded 3 (S' := (5, [some (.inr (some 0)), some (.inl v1)], [.inl v1, .inr (some 1)], (hX s))) rfl ?_
  obtain ⟨x1, hc, h⟩ := dp_bd_inv h
  refine dp_cV okX5_crowded okX2_isSet (as := [.inl v1]) (r := []) rfl lk_NearLiars_139 npX2_isSet (c_X2_isSet s v1 x1 hc) rfl rfl rfl rfl (Nat.le_of_ble_eq_true rfl) (Nat.le_of_ble_eq_true rfl) (Nat.le_refl _) (Nat.le_refl _) ?_
  refine dp_blk okX5_crowded 0 (S' := (8, [some (.inr (some 0)), some (.inl v1)], [.inl x1], (hX s))) rfl ?_
  refine dp_if0 okX5_crowded rfl (fun (c : x1 = (0 : Int32)) => ?_) (fun (c : ¬ x1 = (0 : Int32)) => ?_)
  · have h := dp_ip c h
    refine dp_blk okX5_crowded 1 (S' := (31, [some (.inr (some 0)), some (.inl v1)], [.inl (-2 : Int32)], (hX s))) rfl ?_
    cases h
    exact dp_iret okX5_crowded rfl rfl hk
  · have h := dp_ic c h
    refine dp_blk okX5_crowded 6 (S' := (23, [some (.inr (some 0)), some (.inl v1)], [.inl (s.1 5), .inl v1, .inr (some 1)], (hX s))) rfl ?_
    obtain ⟨x2, hc, h⟩ := dp_bd_inv h
    refine dp_cV okX5_crowded okX2_leastCrowded (as := [.inl v1, .inl (s.1 5)]) (r := []) rfl lk_NearLiars_148 npX2_leastCrowded (c_X2_leastCrowded s v1 (s.1 5) x2 hc) rfl rfl rfl rfl (Nat.le_of_ble_eq_true rfl) (Nat.le_of_ble_eq_true rfl) (Nat.le_refl _) (Nat.le_refl _) ?_
    refine dp_blk okX5_crowded 1 (S' := (31, [some (.inr (some 0)), some (.inl v1)], [.inl x2], (hX s))) rfl ?_
    cases h
    exact dp_iret okX5_crowded rfl rfl hk
theorem c_X5_crowded (s : dp_Z) (v1 : Int32) (o : Int32) (h : j_X5_crowded s v1 = some o) : dp_C 2 mX5_crowded false [.inr (some 0), .inl v1] (hX s) 0 0 (dp_R (some (.inl o)) (hX s)) := dp_C_of okX5_crowded [some (.inr (some 0)), some (.inl v1)] rfl (Nat.le_of_ble_eq_true rfl) (we_X5_crowded s v1 o h ⟨rfl, rfl⟩)
def j_X5_reached (s : dp_Z) (v1 : Int32) : Option Int32 := (dp_bd (j_X2_isSet s v1) fun x1 => (if x1 = (0 : Int32) then (some (-2 : Int32)) else (dp_bd (j_X2_spread s v1 (s.1 5)) fun x2 => (some x2))))
set_option maxHeartbeats 1000000 in
set_option maxRecDepth 20000 in
theorem we_X5_reached {post : Option dp_V → dp_H → Prop} {h0 : dp_H} (s : dp_Z) (v1 : Int32) (o : Int32) (h : j_X5_reached s v1 = some o) (hk : post (some (.inl o)) (hX s)) : dp_W 3 mX5_reached false h0 0 0 post 0 0 (0, [some (.inr (some 0)), some (.inl v1)], [], (hX s)) := by
  unfold j_X5_reached at h
  refine dp_blk okX5_reached 3 (S' := (5, [some (.inr (some 0)), some (.inl v1)], [.inl v1, .inr (some 1)], (hX s))) rfl ?_
  obtain ⟨x1, hc, h⟩ := dp_bd_inv h
  refine dp_cV okX5_reached okX2_isSet (as := [.inl v1]) (r := []) rfl lk_NearLiars_139 npX2_isSet (c_X2_isSet s v1 x1 hc) rfl rfl rfl rfl (Nat.le_of_ble_eq_true rfl) (Nat.le_of_ble_eq_true rfl) (Nat.le_refl _) (Nat.le_refl _) ?_
  refine dp_blk okX5_reached 0 (S' := (8, [some (.inr (some 0)), some (.inl v1)], [.inl x1], (hX s))) rfl ?_
  refine dp_if0 okX5_reached rfl (fun (c : x1 = (0 : Int32)) => ?_) (fun (c : ¬ x1 = (0 : Int32)) => ?_)
  · have h := dp_ip c h
    refine dp_blk okX5_reached 1 (S' := (31, [some (.inr (some 0)), some (.inl v1)], [.inl (-2 : Int32)], (hX s))) rfl ?_
    cases h
    exact dp_iret okX5_reached rfl rfl hk
  · have h := dp_ic c h
    refine dp_blk okX5_reached 6 (S' := (23, [some (.inr (some 0)), some (.inl v1)], [.inl (s.1 5), .inl v1, .inr (some 1)], (hX s))) rfl ?_
    obtain ⟨x2, hc, h⟩ := dp_bd_inv h
    refine dp_cV okX5_reached okX2_spread (as := [.inl v1, .inl (s.1 5)]) (r := []) rfl lk_NearLiars_151 npX2_spread (c_X2_spread s v1 (s.1 5) x2 hc) rfl rfl rfl rfl (Nat.le_of_ble_eq_true rfl) (Nat.le_of_ble_eq_true rfl) (Nat.le_refl _) (Nat.le_refl _) ?_
    refine dp_blk okX5_reached 1 (S' := (31, [some (.inr (some 0)), some (.inl v1)], [.inl x2], (hX s))) rfl ?_
    cases h
    exact dp_iret okX5_reached rfl rfl hk
theorem c_X5_reached (s : dp_Z) (v1 : Int32) (o : Int32) (h : j_X5_reached s v1 = some o) : dp_C 3 mX5_reached false [.inr (some 0), .inl v1] (hX s) 0 0 (dp_R (some (.inl o)) (hX s)) := dp_C_of okX5_reached [some (.inr (some 0)), some (.inl v1)] rfl (Nat.le_of_ble_eq_true rfl) (we_X5_reached s v1 o h ⟨rfl, rfl⟩)
def j_X5_worst (s : dp_Z) (v1 : Int32) : Option (Int32 × dp_Z) := (if v1 < (0 : Int32) then (some ((-2 : Int32), s)) else (if v1 ≤ (3 : Int32) then (dp_bd (j_X4_take s) fun x1 => (if v1 = (0 : Int32) then (some ((x1.1 9), x1)) else (if v1 = (1 : Int32) then (some ((x1.1 10), x1)) else (if v1 = (2 : Int32) then (some ((x1.1 11), x1)) else (some ((x1.1 12), x1)))))) else (some ((-2 : Int32), s))))
set_option maxHeartbeats 1000000 in
set_option maxRecDepth 20000 in
theorem we_X5_worst {post : Option dp_V → dp_H → Prop} {h0 : dp_H} (s : dp_Z) (v1 : Int32) (o : (Int32 × dp_Z)) (h : j_X5_worst s v1 = some o) (hk : post (some (.inl o.1)) (hX o.2)) : dp_W 5 mX5_worst false h0 0 0 post 0 0 (0, [some (.inr (some 0)), some (.inl v1)], [], (hX s)) := by
  unfold j_X5_worst at h
  refine dp_blk okX5_worst 1 (S' := (1, [some (.inr (some 0)), some (.inl v1)], [.inl v1], (hX s))) rfl ?_
  refine dp_if0 okX5_worst rfl (fun (c : v1 < (0 : Int32)) => ?_) (fun (c : ¬ v1 < (0 : Int32)) => ?_)
  · have h := dp_ip c h
    refine dp_blk okX5_worst 1 (S' := (11, [some (.inr (some 0)), some (.inl v1)], [.inl (-2 : Int32)], (hX s))) rfl ?_
    cases h
    exact dp_iret okX5_worst rfl rfl hk
  · have h := dp_ic c h
    refine dp_blk okX5_worst 2 (S' := (6, [some (.inr (some 0)), some (.inl v1)], [.inl (3 : Int32), .inl v1], (hX s))) rfl ?_
    refine dp_if okX5_worst rfl (fun (c : v1 ≤ (3 : Int32)) => ?_) (fun (c : ¬ v1 ≤ (3 : Int32)) => ?_)
    · have h := dp_ip c h
      refine dp_blk okX5_worst 4 (S' := (20, [some (.inr (some 0)), some (.inl v1)], [.inr (some 1), .inr (some 9)], (hX s))) rfl ?_
      obtain ⟨x1, hc, h⟩ := dp_bd_inv h
      refine dp_cV okX5_worst okX4_take (as := [.inr (some 1)]) (r := []) rfl lk_NearLiars_154 npX4_take (c_X4_take s x1 hc) rfl rfl rfl rfl (Nat.le_of_ble_eq_true rfl) (Nat.le_of_ble_eq_true rfl) (Nat.le_refl _) (Nat.le_refl _) ?_
      refine dp_blk okX5_worst 1 (S' := (24, [some (.inr (some 0)), some (.inl v1)], [.inl v1], (hX x1))) rfl ?_
      by_cases c0 : v1 = (0 : Int32)
      · have h := dp_ip c0 h
        refine dp_swI okX5_worst (tgt := 52) rfl (by rw [c0]; exact ⟨by decide, by decide, rfl, by decide⟩) ?_
        refine dp_blk okX5_worst 3 (S' := (59, [some (.inr (some 0)), some (.inl v1)], [.inl (x1.1 9)], (hX x1))) rfl ?_
        cases h
        exact dp_iret okX5_worst rfl rfl hk
      have h := dp_ic c0 h
      by_cases c1 : v1 = (1 : Int32)
      · have h := dp_ip c1 h
        refine dp_swI okX5_worst (tgt := 60) rfl (by rw [c1]; exact ⟨by decide, by decide, rfl, by decide⟩) ?_
        refine dp_blk okX5_worst 3 (S' := (67, [some (.inr (some 0)), some (.inl v1)], [.inl (x1.1 10)], (hX x1))) rfl ?_
        cases h
        exact dp_iret okX5_worst rfl rfl hk
      have h := dp_ic c1 h
      by_cases c2 : v1 = (2 : Int32)
      · have h := dp_ip c2 h
        refine dp_swI okX5_worst (tgt := 68) rfl (by rw [c2]; exact ⟨by decide, by decide, rfl, by decide⟩) ?_
        refine dp_blk okX5_worst 3 (S' := (75, [some (.inr (some 0)), some (.inl v1)], [.inl (x1.1 11)], (hX x1))) rfl ?_
        cases h
        exact dp_iret okX5_worst rfl rfl hk
      have h := dp_ic c2 h
      refine dp_swO okX5_worst (tgt := 76) rfl (dp_out 2 (by decide) (fun j hj => ?_)) (by decide) ?_
      · rcases (show j = 0 ∨ j = 1 ∨ j = 2 by omega) with rfl | rfl | rfl
        · exact c0
        · exact c1
        · exact c2
      refine dp_blk okX5_worst 3 (S' := (83, [some (.inr (some 0)), some (.inl v1)], [.inl (x1.1 12)], (hX x1))) rfl ?_
      cases h
      exact dp_iret okX5_worst rfl rfl hk
    · have h := dp_ic c h
      refine dp_blk okX5_worst 1 (S' := (11, [some (.inr (some 0)), some (.inl v1)], [.inl (-2 : Int32)], (hX s))) rfl ?_
      cases h
      exact dp_iret okX5_worst rfl rfl hk
theorem c_X5_worst (s : dp_Z) (v1 : Int32) (o : (Int32 × dp_Z)) (h : j_X5_worst s v1 = some o) : dp_C 5 mX5_worst false [.inr (some 0), .inl v1] (hX s) 0 0 (dp_R (some (.inl o.1)) (hX o.2)) := dp_C_of okX5_worst [some (.inr (some 0)), some (.inl v1)] rfl (Nat.le_of_ble_eq_true rfl) (we_X5_worst s v1 o h ⟨rfl, rfl⟩)
def j_X5_bears (s : dp_Z) : Option Int32 := (dp_bd (j_X2_greatestBorne s) fun x1 => (some x1))
set_option maxHeartbeats 1000000 in
set_option maxRecDepth 20000 in
theorem we_X5_bears {post : Option dp_V → dp_H → Prop} {h0 : dp_H} (s : dp_Z) (o : Int32) (h : j_X5_bears s = some o) (hk : post (some (.inl o)) (hX s)) : dp_W 5 mX5_bears false h0 0 0 post 0 0 (0, [some (.inr (some 0))], [], (hX s)) := by
  unfold j_X5_bears at h
  refine dp_blk okX5_bears 2 (S' := (4, [some (.inr (some 0))], [.inr (some 1)], (hX s))) rfl ?_
  obtain ⟨x1, hc, h⟩ := dp_bd_inv h
  refine dp_cV okX5_bears okX2_greatestBorne (as := []) (r := []) rfl lk_NearLiars_169 npX2_greatestBorne (c_X2_greatestBorne s x1 hc) rfl rfl rfl rfl (Nat.le_of_ble_eq_true rfl) (Nat.le_of_ble_eq_true rfl) (Nat.le_refl _) (Nat.le_refl _) ?_
  refine dp_blk okX5_bears 0 (S' := (7, [some (.inr (some 0))], [.inl x1], (hX s))) rfl ?_
  cases h
  exact dp_iret okX5_bears rfl rfl hk
theorem c_X5_bears (s : dp_Z) (o : Int32) (h : j_X5_bears s = some o) : dp_C 5 mX5_bears false [.inr (some 0)] (hX s) 0 0 (dp_R (some (.inl o)) (hX s)) := dp_C_of okX5_bears [some (.inr (some 0))] rfl (Nat.le_of_ble_eq_true rfl) (we_X5_bears s o h ⟨rfl, rfl⟩)
def j_X5_name (s : dp_Z) (v1 : Int32) : Option (Int32 × dp_Z) := (dp_bd (j_X2_isSet s v1) fun x1 => (if x1 = (0 : Int32) then (some ((-2 : Int32), s)) else (dp_bd (j_X2_cut s v1 (s.1 5)) fun x2 => (if x2 = (0 : Int32) then (some ((-3 : Int32), s)) else (dp_bd (j_X1_place s x2) fun x3 => (some (x3.1, x3.2)))))))
set_option maxHeartbeats 1000000 in
set_option maxRecDepth 20000 in
theorem we_X5_name {post : Option dp_V → dp_H → Prop} {h0 : dp_H} (s : dp_Z) (v1 : Int32) (o : (Int32 × dp_Z)) (h : j_X5_name s v1 = some o) (hk : post (some (.inl o.1)) (hX o.2)) : dp_W 4 mX5_name false h0 0 0 post 0 0 (0, [some (.inr (some 0)), some (.inl v1), none], [], (hX s)) := by
  unfold j_X5_name at h
  refine dp_blk okX5_name 3 (S' := (5, [some (.inr (some 0)), some (.inl v1), none], [.inl v1, .inr (some 1)], (hX s))) rfl ?_
  obtain ⟨x1, hc, h⟩ := dp_bd_inv h
  refine dp_cV okX5_name okX2_isSet (as := [.inl v1]) (r := []) rfl lk_NearLiars_139 npX2_isSet (c_X2_isSet s v1 x1 hc) rfl rfl rfl rfl (Nat.le_of_ble_eq_true rfl) (Nat.le_of_ble_eq_true rfl) (Nat.le_refl _) (Nat.le_refl _) ?_
  refine dp_blk okX5_name 0 (S' := (8, [some (.inr (some 0)), some (.inl v1), none], [.inl x1], (hX s))) rfl ?_
  refine dp_if0 okX5_name rfl (fun (c : ¬ x1 = (0 : Int32)) => ?_) (fun (c : x1 = (0 : Int32)) => ?_)
  · have h := dp_ic c h
    refine dp_blk okX5_name 6 (S' := (26, [some (.inr (some 0)), some (.inl v1), none], [.inl (s.1 5), .inl v1, .inr (some 1)], (hX s))) rfl ?_
    obtain ⟨x2, hc, h⟩ := dp_bd_inv h
    refine dp_cV okX5_name okX2_cut (as := [.inl v1, .inl (s.1 5)]) (r := []) rfl lk_NearLiars_145 npX2_cut (c_X2_cut s v1 (s.1 5) x2 hc) rfl rfl rfl rfl (Nat.le_of_ble_eq_true rfl) (Nat.le_of_ble_eq_true rfl) (Nat.le_refl _) (Nat.le_refl _) ?_
    refine dp_blk okX5_name 2 (S' := (31, [some (.inr (some 0)), some (.inl v1), some (.inl x2)], [.inl x2], (hX s))) rfl ?_
    refine dp_if0 okX5_name rfl (fun (c : ¬ x2 = (0 : Int32)) => ?_) (fun (c : x2 = (0 : Int32)) => ?_)
    · have h := dp_ic c h
      refine dp_blk okX5_name 3 (S' := (44, [some (.inr (some 0)), some (.inl v1), some (.inl x2)], [.inl x2, .inr (some 10)], (hX s))) rfl ?_
      obtain ⟨x3, hc, h⟩ := dp_bd_inv h
      refine dp_cV okX5_name okX1_place (as := [.inl x2]) (r := []) rfl lk_NearLiars_172 npX1_place (c_X1_place s x2 x3 hc) rfl rfl rfl rfl (Nat.le_of_ble_eq_true rfl) (Nat.le_of_ble_eq_true rfl) (Nat.le_refl _) (Nat.le_refl _) ?_
      refine dp_blk okX5_name 0 (S' := (47, [some (.inr (some 0)), some (.inl v1), some (.inl x2)], [.inl x3.1], (hX x3.2))) rfl ?_
      cases h
      exact dp_iret okX5_name rfl rfl hk
    · have h := dp_ip c h
      refine dp_blk okX5_name 2 (S' := (47, [some (.inr (some 0)), some (.inl v1), some (.inl x2)], [.inl (-3 : Int32)], (hX s))) rfl ?_
      cases h
      exact dp_iret okX5_name rfl rfl hk
  · have h := dp_ip c h
    refine dp_blk okX5_name 1 (S' := (13, [some (.inr (some 0)), some (.inl v1), none], [.inl (-2 : Int32)], (hX s))) rfl ?_
    cases h
    exact dp_iret okX5_name rfl rfl hk
theorem c_X5_name (s : dp_Z) (v1 : Int32) (o : (Int32 × dp_Z)) (h : j_X5_name s v1 = some o) : dp_C 4 mX5_name false [.inr (some 0), .inl v1] (hX s) 0 0 (dp_R (some (.inl o.1)) (hX o.2)) := dp_C_of okX5_name [some (.inr (some 0)), some (.inl v1), none] rfl (Nat.le_of_ble_eq_true rfl) (we_X5_name s v1 o h ⟨rfl, rfl⟩)
def j_X5_named (s : dp_Z) (v1 : Int32) : Option Int32 := (if v1 < (0 : Int32) then (some (-2 : Int32)) else (if (s.1 13) ≤ v1 then (some (-2 : Int32)) else (if dp_inb v1 6 = true then (some ((s.2 6) (v1).toNatClampNeg)) else none)))
set_option maxHeartbeats 1000000 in
set_option maxRecDepth 20000 in
theorem we_X5_named {post : Option dp_V → dp_H → Prop} {h0 : dp_H} (s : dp_Z) (v1 : Int32) (o : Int32) (h : j_X5_named s v1 = some o) (hk : post (some (.inl o)) (hX s)) : dp_W 0 mX5_named false h0 0 0 post 0 0 (0, [some (.inr (some 0)), some (.inl v1)], [], (hX s)) := by
  unfold j_X5_named at h
  refine dp_blk okX5_named 1 (S' := (1, [some (.inr (some 0)), some (.inl v1)], [.inl v1], (hX s))) rfl ?_
  refine dp_if0 okX5_named rfl (fun (c : v1 < (0 : Int32)) => ?_) (fun (c : ¬ v1 < (0 : Int32)) => ?_)
  · have h := dp_ip c h
    refine dp_blk okX5_named 1 (S' := (29, [some (.inr (some 0)), some (.inl v1)], [.inl (-2 : Int32)], (hX s))) rfl ?_
    cases h
    exact dp_iret okX5_named rfl rfl hk
  · have h := dp_ic c h
    refine dp_blk okX5_named 4 (S' := (12, [some (.inr (some 0)), some (.inl v1)], [.inl (s.1 13), .inl v1], (hX s))) rfl ?_
    refine dp_if okX5_named rfl (fun (c : (s.1 13) ≤ v1) => ?_) (fun (c : ¬ (s.1 13) ≤ v1) => ?_)
    · have h := dp_ip c h
      refine dp_blk okX5_named 1 (S' := (29, [some (.inr (some 0)), some (.inl v1)], [.inl (-2 : Int32)], (hX s))) rfl ?_
      cases h
      exact dp_iret okX5_named rfl rfl hk
    · have h := dp_ic c h
      refine dp_blk okX5_named 4 (S' := (23, [some (.inr (some 0)), some (.inl v1)], [.inl v1, .inr (some 11)], (hX s))) rfl ?_
      obtain ⟨hi, h⟩ := dp_ite h
      refine dp_ial (g := (s.2 6)) okX5_named rfl rfl (dp_inb_in hi) ?_
      refine dp_blk okX5_named 1 (S' := (29, [some (.inr (some 0)), some (.inl v1)], [.inl ((s.2 6) (v1).toNatClampNeg)], (hX s))) rfl ?_
      cases h
      exact dp_iret okX5_named rfl rfl hk
theorem c_X5_named (s : dp_Z) (v1 : Int32) (o : Int32) (h : j_X5_named s v1 = some o) : dp_C 0 mX5_named false [.inr (some 0), .inl v1] (hX s) 0 0 (dp_R (some (.inl o)) (hX s)) := dp_C_of okX5_named [some (.inr (some 0)), some (.inl v1)] rfl (Nat.le_of_ble_eq_true rfl) (we_X5_named s v1 o h ⟨rfl, rfl⟩)
def j_X5_walk (s : dp_Z) (v1 : Int32) : Option (Int32 × dp_Z) := (dp_bd (j_X2_has s v1) fun x1 => (if x1 = (0 : Int32) then (some ((-1 : Int32), s)) else (dp_bd (j_X0_canStep s v1) fun x2 => (if x2 = (0 : Int32) then (some ((-3 : Int32), s)) else (dp_bd (j_X0_step s v1) fun x3 => (some (x3.1, x3.2)))))))
set_option maxHeartbeats 1000000 in
set_option maxRecDepth 20000 in
theorem we_X5_walk {post : Option dp_V → dp_H → Prop} {h0 : dp_H} (s : dp_Z) (v1 : Int32) (o : (Int32 × dp_Z)) (h : j_X5_walk s v1 = some o) (hk : post (some (.inl o.1)) (hX o.2)) : dp_W 3 mX5_walk false h0 0 0 post 0 0 (0, [some (.inr (some 0)), some (.inl v1)], [], (hX s)) := by
  unfold j_X5_walk at h
  refine dp_blk okX5_walk 3 (S' := (5, [some (.inr (some 0)), some (.inl v1)], [.inl v1, .inr (some 1)], (hX s))) rfl ?_
  obtain ⟨x1, hc, h⟩ := dp_bd_inv h
  refine dp_cV okX5_walk okX2_has (as := [.inl v1]) (r := []) rfl lk_NearLiars_52 npX2_has (c_X2_has s v1 x1 hc) rfl rfl rfl rfl (Nat.le_of_ble_eq_true rfl) (Nat.le_of_ble_eq_true rfl) (Nat.le_refl _) (Nat.le_refl _) ?_
  refine dp_blk okX5_walk 0 (S' := (8, [some (.inr (some 0)), some (.inl v1)], [.inl x1], (hX s))) rfl ?_
  refine dp_if0 okX5_walk rfl (fun (c : ¬ x1 = (0 : Int32)) => ?_) (fun (c : x1 = (0 : Int32)) => ?_)
  · have h := dp_ic c h
    refine dp_blk okX5_walk 5 (S' := (22, [some (.inr (some 0)), some (.inl v1)], [.inl v1, .inr (some 1), .inr (some 12)], (hX s))) rfl ?_
    obtain ⟨x2, hc, h⟩ := dp_bd_inv h
    refine dp_cV okX5_walk okX0_canStep (as := [.inr (some 1), .inl v1]) (r := []) rfl lk_NearLiars_181 npX0_canStep (c_X0_canStep s v1 x2 hc) rfl rfl rfl rfl (Nat.le_of_ble_eq_true rfl) (Nat.le_of_ble_eq_true rfl) (Nat.le_refl _) (Nat.le_refl _) ?_
    refine dp_blk okX5_walk 0 (S' := (25, [some (.inr (some 0)), some (.inl v1)], [.inl x2], (hX s))) rfl ?_
    refine dp_if0 okX5_walk rfl (fun (c : x2 = (0 : Int32)) => ?_) (fun (c : ¬ x2 = (0 : Int32)) => ?_)
    · have h := dp_ip c h
      refine dp_blk okX5_walk 1 (S' := (41, [some (.inr (some 0)), some (.inl v1)], [.inl (-3 : Int32)], (hX s))) rfl ?_
      cases h
      exact dp_iret okX5_walk rfl rfl hk
    · have h := dp_ic c h
      refine dp_blk okX5_walk 3 (S' := (33, [some (.inr (some 0)), some (.inl v1)], [.inl v1, .inr (some 12)], (hX s))) rfl ?_
      obtain ⟨x3, hc, h⟩ := dp_bd_inv h
      refine dp_cV okX5_walk okX0_step (as := [.inl v1]) (r := []) rfl lk_NearLiars_185 npX0_step (c_X0_step s v1 x3 hc) rfl rfl rfl rfl (Nat.le_of_ble_eq_true rfl) (Nat.le_of_ble_eq_true rfl) (Nat.le_refl _) (Nat.le_refl _) ?_
      refine dp_blk okX5_walk 1 (S' := (41, [some (.inr (some 0)), some (.inl v1)], [.inl x3.1], (hX x3.2))) rfl ?_
      cases h
      exact dp_iret okX5_walk rfl rfl hk
  · have h := dp_ip c h
    refine dp_blk okX5_walk 1 (S' := (12, [some (.inr (some 0)), some (.inl v1)], [.inl (-1 : Int32)], (hX s))) rfl ?_
    cases h
    exact dp_iret okX5_walk rfl rfl hk
theorem c_X5_walk (s : dp_Z) (v1 : Int32) (o : (Int32 × dp_Z)) (h : j_X5_walk s v1 = some o) : dp_C 3 mX5_walk false [.inr (some 0), .inl v1] (hX s) 0 0 (dp_R (some (.inl o.1)) (hX o.2)) := dp_C_of okX5_walk [some (.inr (some 0)), some (.inl v1)] rfl (Nat.le_of_ble_eq_true rfl) (we_X5_walk s v1 o h ⟨rfl, rfl⟩)
def j_X5_tell (s : dp_Z) (v1 : Int32) : Option (Int32 × dp_Z) := (dp_bd (j_X5_isValue v1) fun x1 => (if x1 = (0 : Int32) then (some ((-2 : Int32), s)) else (if (s.1 15) < (2 : Int32) then (some ((-3 : Int32), s)) else (dp_bd (j_X0_isTold s v1) fun x2 => (if x2 = (0 : Int32) then (dp_bd (j_X0_keep s v1) fun x3 => (some (x3.1, x3.2))) else (some ((-3 : Int32), s)))))))
set_option maxHeartbeats 1000000 in
set_option maxRecDepth 20000 in
theorem we_X5_tell {post : Option dp_V → dp_H → Prop} {h0 : dp_H} (s : dp_Z) (v1 : Int32) (o : (Int32 × dp_Z)) (h : j_X5_tell s v1 = some o) (hk : post (some (.inl o.1)) (hX o.2)) : dp_W 3 mX5_tell false h0 0 0 post 0 0 (0, [some (.inr (some 0)), some (.inl v1)], [], (hX s)) := by
  unfold j_X5_tell at h
  refine dp_blk okX5_tell 1 (S' := (1, [some (.inr (some 0)), some (.inl v1)], [.inl v1], (hX s))) rfl ?_
  obtain ⟨x1, hc, h⟩ := dp_bd_inv h
  refine dp_cS okX5_tell okX5_isValue (as := [.inl v1]) (r := []) rfl lk_NearLiars_71 npX5_isValue (c_X5_isValue (hX s) v1 x1 hc) rfl (Nat.le_of_ble_eq_true rfl) (Nat.le_of_ble_eq_true rfl) (Nat.le_refl _) (Nat.le_refl _) ?_
  refine dp_blk okX5_tell 0 (S' := (4, [some (.inr (some 0)), some (.inl v1)], [.inl x1], (hX s))) rfl ?_
  refine dp_if0 okX5_tell rfl (fun (c : ¬ x1 = (0 : Int32)) => ?_) (fun (c : x1 = (0 : Int32)) => ?_)
  · have h := dp_ic c h
    refine dp_blk okX5_tell 4 (S' := (18, [some (.inr (some 0)), some (.inl v1)], [.inl (2 : Int32), .inl (s.1 15)], (hX s))) rfl ?_
    refine dp_if okX5_tell rfl (fun (c : (s.1 15) < (2 : Int32)) => ?_) (fun (c : ¬ (s.1 15) < (2 : Int32)) => ?_)
    · have h := dp_ip c h
      refine dp_blk okX5_tell 1 (S' := (34, [some (.inr (some 0)), some (.inl v1)], [.inl (-3 : Int32)], (hX s))) rfl ?_
      cases h
      exact dp_iret okX5_tell rfl rfl hk
    · have h := dp_ic c h
      refine dp_blk okX5_tell 3 (S' := (26, [some (.inr (some 0)), some (.inl v1)], [.inl v1, .inr (some 12)], (hX s))) rfl ?_
      obtain ⟨x2, hc, h⟩ := dp_bd_inv h
      refine dp_cV okX5_tell okX0_isTold (as := [.inl v1]) (r := []) rfl lk_NearLiars_191 npX0_isTold (c_X0_isTold s v1 x2 hc) rfl rfl rfl rfl (Nat.le_of_ble_eq_true rfl) (Nat.le_of_ble_eq_true rfl) (Nat.le_refl _) (Nat.le_refl _) ?_
      refine dp_blk okX5_tell 0 (S' := (29, [some (.inr (some 0)), some (.inl v1)], [.inl x2], (hX s))) rfl ?_
      refine dp_if0 okX5_tell rfl (fun (c : x2 = (0 : Int32)) => ?_) (fun (c : ¬ x2 = (0 : Int32)) => ?_)
      · have h := dp_ip c h
        refine dp_blk okX5_tell 3 (S' := (40, [some (.inr (some 0)), some (.inl v1)], [.inl v1, .inr (some 12)], (hX s))) rfl ?_
        obtain ⟨x3, hc, h⟩ := dp_bd_inv h
        refine dp_cV okX5_tell okX0_keep (as := [.inl v1]) (r := []) rfl lk_NearLiars_194 npX0_keep (c_X0_keep s v1 x3 hc) rfl rfl rfl rfl (Nat.le_of_ble_eq_true rfl) (Nat.le_of_ble_eq_true rfl) (Nat.le_refl _) (Nat.le_refl _) ?_
        refine dp_blk okX5_tell 0 (S' := (43, [some (.inr (some 0)), some (.inl v1)], [.inl x3.1], (hX x3.2))) rfl ?_
        cases h
        exact dp_iret okX5_tell rfl rfl hk
      · have h := dp_ic c h
        refine dp_blk okX5_tell 1 (S' := (34, [some (.inr (some 0)), some (.inl v1)], [.inl (-3 : Int32)], (hX s))) rfl ?_
        cases h
        exact dp_iret okX5_tell rfl rfl hk
  · have h := dp_ip c h
    refine dp_blk okX5_tell 1 (S' := (9, [some (.inr (some 0)), some (.inl v1)], [.inl (-2 : Int32)], (hX s))) rfl ?_
    cases h
    exact dp_iret okX5_tell rfl rfl hk
theorem c_X5_tell (s : dp_Z) (v1 : Int32) (o : (Int32 × dp_Z)) (h : j_X5_tell s v1 = some o) : dp_C 3 mX5_tell false [.inr (some 0), .inl v1] (hX s) 0 0 (dp_R (some (.inl o.1)) (hX o.2)) := dp_C_of okX5_tell [some (.inr (some 0)), some (.inl v1)] rfl (Nat.le_of_ble_eq_true rfl) (we_X5_tell s v1 o h ⟨rfl, rfl⟩)
def j_X5_drop (s : dp_Z) : Option (Int32 × dp_Z) := (dp_bd (j_X0_letGo s) fun x1 => (some ((s.1 15), x1)))
set_option maxHeartbeats 1000000 in
set_option maxRecDepth 20000 in
theorem we_X5_drop {post : Option dp_V → dp_H → Prop} {h0 : dp_H} (s : dp_Z) (o : (Int32 × dp_Z)) (h : j_X5_drop s = some o) (hk : post (some (.inl o.1)) (hX o.2)) : dp_W 1 mX5_drop false h0 0 0 post 0 0 (0, [some (.inr (some 0)), none], [], (hX s)) := by
  unfold j_X5_drop at h
  refine dp_blk okX5_drop 6 (S' := (12, [some (.inr (some 0)), some (.inl (s.1 15))], [.inr (some 12)], (hX s))) rfl ?_
  obtain ⟨x1, hc, h⟩ := dp_bd_inv h
  refine dp_cV okX5_drop okX0_letGo (as := []) (r := []) rfl lk_NearLiars_197 npX0_letGo (c_X0_letGo s x1 hc) rfl rfl rfl rfl (Nat.le_of_ble_eq_true rfl) (Nat.le_of_ble_eq_true rfl) (Nat.le_refl _) (Nat.le_refl _) ?_
  refine dp_blk okX5_drop 1 (S' := (16, [some (.inr (some 0)), some (.inl (s.1 15))], [.inl (s.1 15)], (hX x1))) rfl ?_
  cases h
  exact dp_iret okX5_drop rfl rfl hk
theorem c_X5_drop (s : dp_Z) (o : (Int32 × dp_Z)) (h : j_X5_drop s = some o) : dp_C 1 mX5_drop false [.inr (some 0)] (hX s) 0 0 (dp_R (some (.inl o.1)) (hX o.2)) := dp_C_of okX5_drop [some (.inr (some 0)), none] rfl (Nat.le_of_ble_eq_true rfl) (we_X5_drop s o h ⟨rfl, rfl⟩)
def jj_X5_claim_43 (s : dp_Z) (v1 v2 : Int32) : Option Int32 := (if v2 = (0 : Int32) then (if dp_inb v1 8 = true then (some ((s.2 11) (v1).toNatClampNeg)) else none) else (if v2 = (1 : Int32) then (if dp_inb v1 8 = true then (some ((s.2 9) (v1).toNatClampNeg)) else none) else (if v2 = (2 : Int32) then (if dp_inb v1 8 = true then (some ((s.2 10) (v1).toNatClampNeg)) else none) else (some (-2 : Int32)))))
set_option maxHeartbeats 1000000 in
set_option maxRecDepth 20000 in
theorem wj_X5_claim_43 {post : Option dp_V → dp_H → Prop} {h0 : dp_H} (s : dp_Z) (v1 v2 : Int32) (o : Int32) (h : jj_X5_claim_43 s v1 v2 = some o) (hk : post (some (.inl o)) (hX s)) : dp_W 1 mX5_claim false h0 0 0 post 0 0 (43, [some (.inr (some 0)), some (.inl v1), some (.inl v2)], [], (hX s)) := by
  unfold jj_X5_claim_43 at h
  refine dp_blk okX5_claim 1 (S' := (44, [some (.inr (some 0)), some (.inl v1), some (.inl v2)], [.inl v2], (hX s))) rfl ?_
  by_cases c0 : v2 = (0 : Int32)
  · have h := dp_ip c0 h
    refine dp_swI okX5_claim (tgt := 72) rfl (by rw [c0]; exact ⟨by decide, by decide, rfl, by decide⟩) ?_
    refine dp_blk okX5_claim 4 (S' := (80, [some (.inr (some 0)), some (.inl v1), some (.inl v2)], [.inl v1, .inr (some 17)], (hX s))) rfl ?_
    obtain ⟨hi, h⟩ := dp_ite h
    refine dp_ial (g := (s.2 11)) okX5_claim rfl rfl (dp_inb_in hi) ?_
    refine dp_blk okX5_claim 0 (S' := (81, [some (.inr (some 0)), some (.inl v1), some (.inl v2)], [.inl ((s.2 11) (v1).toNatClampNeg)], (hX s))) rfl ?_
    cases h
    exact dp_iret okX5_claim rfl rfl hk
  have h := dp_ic c0 h
  by_cases c1 : v2 = (1 : Int32)
  · have h := dp_ip c1 h
    refine dp_swI okX5_claim (tgt := 82) rfl (by rw [c1]; exact ⟨by decide, by decide, rfl, by decide⟩) ?_
    refine dp_blk okX5_claim 4 (S' := (90, [some (.inr (some 0)), some (.inl v1), some (.inl v2)], [.inl v1, .inr (some 15)], (hX s))) rfl ?_
    obtain ⟨hi, h⟩ := dp_ite h
    refine dp_ial (g := (s.2 9)) okX5_claim rfl rfl (dp_inb_in hi) ?_
    refine dp_blk okX5_claim 0 (S' := (91, [some (.inr (some 0)), some (.inl v1), some (.inl v2)], [.inl ((s.2 9) (v1).toNatClampNeg)], (hX s))) rfl ?_
    cases h
    exact dp_iret okX5_claim rfl rfl hk
  have h := dp_ic c1 h
  by_cases c2 : v2 = (2 : Int32)
  · have h := dp_ip c2 h
    refine dp_swI okX5_claim (tgt := 92) rfl (by rw [c2]; exact ⟨by decide, by decide, rfl, by decide⟩) ?_
    refine dp_blk okX5_claim 4 (S' := (100, [some (.inr (some 0)), some (.inl v1), some (.inl v2)], [.inl v1, .inr (some 16)], (hX s))) rfl ?_
    obtain ⟨hi, h⟩ := dp_ite h
    refine dp_ial (g := (s.2 10)) okX5_claim rfl rfl (dp_inb_in hi) ?_
    refine dp_blk okX5_claim 0 (S' := (101, [some (.inr (some 0)), some (.inl v1), some (.inl v2)], [.inl ((s.2 10) (v1).toNatClampNeg)], (hX s))) rfl ?_
    cases h
    exact dp_iret okX5_claim rfl rfl hk
  have h := dp_ic c2 h
  refine dp_swO okX5_claim (tgt := 102) rfl (dp_out 2 (by decide) (fun j hj => ?_)) (by decide) ?_
  · rcases (show j = 0 ∨ j = 1 ∨ j = 2 by omega) with rfl | rfl | rfl
    · exact c0
    · exact c1
    · exact c2
  refine dp_blk okX5_claim 1 (S' := (104, [some (.inr (some 0)), some (.inl v1), some (.inl v2)], [.inl (-2 : Int32)], (hX s))) rfl ?_
  cases h
  exact dp_iret okX5_claim rfl rfl hk
def j_X5_claim (s : dp_Z) (v1 v2 : Int32) : Option Int32 := (if v1 < (0 : Int32) then (some (-2 : Int32)) else (if v1 < (s.1 16) then (if v2 < (10 : Int32) then (jj_X5_claim_43 s v1 v2) else (if (22 : Int32) ≤ v2 then (jj_X5_claim_43 s v1 v2) else (dp_bd (j_X0_placeOf s v1 (v2 - (10 : Int32))) fun x1 => (some x1)))) else (some (-2 : Int32))))
set_option maxHeartbeats 1000000 in
set_option maxRecDepth 20000 in
theorem we_X5_claim {post : Option dp_V → dp_H → Prop} {h0 : dp_H} (s : dp_Z) (v1 v2 : Int32) (o : Int32) (h : j_X5_claim s v1 v2 = some o) (hk : post (some (.inl o)) (hX s)) : dp_W 1 mX5_claim false h0 0 0 post 0 0 (0, [some (.inr (some 0)), some (.inl v1), some (.inl v2)], [], (hX s)) := by
  unfold j_X5_claim at h
  refine dp_blk okX5_claim 1 (S' := (1, [some (.inr (some 0)), some (.inl v1), some (.inl v2)], [.inl v1], (hX s))) rfl ?_
  refine dp_if0 okX5_claim rfl (fun (c : v1 < (0 : Int32)) => ?_) (fun (c : ¬ v1 < (0 : Int32)) => ?_)
  · have h := dp_ip c h
    refine dp_blk okX5_claim 1 (S' := (17, [some (.inr (some 0)), some (.inl v1), some (.inl v2)], [.inl (-2 : Int32)], (hX s))) rfl ?_
    cases h
    exact dp_iret okX5_claim rfl rfl hk
  · have h := dp_ic c h
    refine dp_blk okX5_claim 4 (S' := (12, [some (.inr (some 0)), some (.inl v1), some (.inl v2)], [.inl (s.1 16), .inl v1], (hX s))) rfl ?_
    refine dp_if okX5_claim rfl (fun (c : v1 < (s.1 16)) => ?_) (fun (c : ¬ v1 < (s.1 16)) => ?_)
    · have h := dp_ip c h
      refine dp_blk okX5_claim 2 (S' := (21, [some (.inr (some 0)), some (.inl v1), some (.inl v2)], [.inl (10 : Int32), .inl v2], (hX s))) rfl ?_
      refine dp_if okX5_claim rfl (fun (c : v2 < (10 : Int32)) => ?_) (fun (c : ¬ v2 < (10 : Int32)) => ?_)
      · have h := dp_ip c h
        refine dp_blk okX5_claim 0 (S' := (43, [some (.inr (some 0)), some (.inl v1), some (.inl v2)], [], (hX s))) rfl ?_
        exact wj_X5_claim_43 s v1 v2 _ h hk
      · have h := dp_ic c h
        refine dp_blk okX5_claim 2 (S' := (27, [some (.inr (some 0)), some (.inl v1), some (.inl v2)], [.inl (22 : Int32), .inl v2], (hX s))) rfl ?_
        refine dp_if okX5_claim rfl (fun (c : (22 : Int32) ≤ v2) => ?_) (fun (c : ¬ (22 : Int32) ≤ v2) => ?_)
        · have h := dp_ip c h
          refine dp_blk okX5_claim 0 (S' := (43, [some (.inr (some 0)), some (.inl v1), some (.inl v2)], [], (hX s))) rfl ?_
          exact wj_X5_claim_43 s v1 v2 _ h hk
        · have h := dp_ic c h
          refine dp_blk okX5_claim 6 (S' := (39, [some (.inr (some 0)), some (.inl v1), some (.inl v2)], [.inl (v2 - (10 : Int32)), .inl v1, .inr (some 12)], (hX s))) rfl ?_
          obtain ⟨x1, hc, h⟩ := dp_bd_inv h
          refine dp_cV okX5_claim okX0_placeOf (as := [.inl v1, .inl (v2 - (10 : Int32))]) (r := []) rfl lk_NearLiars_201 npX0_placeOf (c_X0_placeOf s v1 (v2 - (10 : Int32)) x1 hc) rfl rfl rfl rfl (Nat.le_of_ble_eq_true rfl) (Nat.le_of_ble_eq_true rfl) (Nat.le_refl _) (Nat.le_refl _) ?_
          refine dp_blk okX5_claim 0 (S' := (42, [some (.inr (some 0)), some (.inl v1), some (.inl v2)], [.inl x1], (hX s))) rfl ?_
          cases h
          exact dp_iret okX5_claim rfl rfl hk
    · have h := dp_ic c h
      refine dp_blk okX5_claim 1 (S' := (17, [some (.inr (some 0)), some (.inl v1), some (.inl v2)], [.inl (-2 : Int32)], (hX s))) rfl ?_
      cases h
      exact dp_iret okX5_claim rfl rfl hk
theorem c_X5_claim (s : dp_Z) (v1 v2 : Int32) (o : Int32) (h : j_X5_claim s v1 v2 = some o) : dp_C 1 mX5_claim false [.inr (some 0), .inl v1, .inl v2] (hX s) 0 0 (dp_R (some (.inl o)) (hX s)) := dp_C_of okX5_claim [some (.inr (some 0)), some (.inl v1), some (.inl v2)] rfl (Nat.le_of_ble_eq_true rfl) (we_X5_claim s v1 v2 o h ⟨rfl, rfl⟩)
def j_X5_proof (s : dp_Z) (v1 v2 : Int32) : Option (Int32 × dp_Z) := (dp_bd (j_X2_has s v1) fun x1 => (if x1 = (0 : Int32) then (some ((-1 : Int32), s)) else (dp_bd (j_X5_isValue v2) fun x2 => (if x2 = (0 : Int32) then (some ((-2 : Int32), s)) else (dp_bd (j_X0_mostApart s v1 v2) fun x3 => (some (x3.1, x3.2)))))))
set_option maxHeartbeats 1000000 in
set_option maxRecDepth 20000 in
theorem we_X5_proof {post : Option dp_V → dp_H → Prop} {h0 : dp_H} (s : dp_Z) (v1 v2 : Int32) (o : (Int32 × dp_Z)) (h : j_X5_proof s v1 v2 = some o) (hk : post (some (.inl o.1)) (hX o.2)) : dp_W 3 mX5_proof false h0 0 0 post 0 0 (0, [some (.inr (some 0)), some (.inl v1), some (.inl v2)], [], (hX s)) := by
  unfold j_X5_proof at h
  refine dp_blk okX5_proof 3 (S' := (5, [some (.inr (some 0)), some (.inl v1), some (.inl v2)], [.inl v1, .inr (some 1)], (hX s))) rfl ?_
  obtain ⟨x1, hc, h⟩ := dp_bd_inv h
  refine dp_cV okX5_proof okX2_has (as := [.inl v1]) (r := []) rfl lk_NearLiars_52 npX2_has (c_X2_has s v1 x1 hc) rfl rfl rfl rfl (Nat.le_of_ble_eq_true rfl) (Nat.le_of_ble_eq_true rfl) (Nat.le_refl _) (Nat.le_refl _) ?_
  refine dp_blk okX5_proof 0 (S' := (8, [some (.inr (some 0)), some (.inl v1), some (.inl v2)], [.inl x1], (hX s))) rfl ?_
  refine dp_if0 okX5_proof rfl (fun (c : ¬ x1 = (0 : Int32)) => ?_) (fun (c : x1 = (0 : Int32)) => ?_)
  · have h := dp_ic c h
    refine dp_blk okX5_proof 1 (S' := (14, [some (.inr (some 0)), some (.inl v1), some (.inl v2)], [.inl v2], (hX s))) rfl ?_
    obtain ⟨x2, hc, h⟩ := dp_bd_inv h
    refine dp_cS okX5_proof okX5_isValue (as := [.inl v2]) (r := []) rfl lk_NearLiars_71 npX5_isValue (c_X5_isValue (hX s) v2 x2 hc) rfl (Nat.le_of_ble_eq_true rfl) (Nat.le_of_ble_eq_true rfl) (Nat.le_refl _) (Nat.le_refl _) ?_
    refine dp_blk okX5_proof 0 (S' := (17, [some (.inr (some 0)), some (.inl v1), some (.inl v2)], [.inl x2], (hX s))) rfl ?_
    refine dp_if0 okX5_proof rfl (fun (c : x2 = (0 : Int32)) => ?_) (fun (c : ¬ x2 = (0 : Int32)) => ?_)
    · have h := dp_ip c h
      refine dp_blk okX5_proof 1 (S' := (34, [some (.inr (some 0)), some (.inl v1), some (.inl v2)], [.inl (-2 : Int32)], (hX s))) rfl ?_
      cases h
      exact dp_iret okX5_proof rfl rfl hk
    · have h := dp_ic c h
      refine dp_blk okX5_proof 4 (S' := (26, [some (.inr (some 0)), some (.inl v1), some (.inl v2)], [.inl v2, .inl v1, .inr (some 12)], (hX s))) rfl ?_
      obtain ⟨x3, hc, h⟩ := dp_bd_inv h
      refine dp_cV okX5_proof okX0_mostApart (as := [.inl v1, .inl v2]) (r := []) rfl lk_NearLiars_213 npX0_mostApart (c_X0_mostApart s v1 v2 x3 hc) rfl rfl rfl rfl (Nat.le_of_ble_eq_true rfl) (Nat.le_of_ble_eq_true rfl) (Nat.le_refl _) (Nat.le_refl _) ?_
      refine dp_blk okX5_proof 1 (S' := (34, [some (.inr (some 0)), some (.inl v1), some (.inl v2)], [.inl x3.1], (hX x3.2))) rfl ?_
      cases h
      exact dp_iret okX5_proof rfl rfl hk
  · have h := dp_ip c h
    refine dp_blk okX5_proof 1 (S' := (12, [some (.inr (some 0)), some (.inl v1), some (.inl v2)], [.inl (-1 : Int32)], (hX s))) rfl ?_
    cases h
    exact dp_iret okX5_proof rfl rfl hk
theorem c_X5_proof (s : dp_Z) (v1 v2 : Int32) (o : (Int32 × dp_Z)) (h : j_X5_proof s v1 v2 = some o) : dp_C 3 mX5_proof false [.inr (some 0), .inl v1, .inl v2] (hX s) 0 0 (dp_R (some (.inl o.1)) (hX o.2)) := dp_C_of okX5_proof [some (.inr (some 0)), some (.inl v1), some (.inl v2)] rfl (Nat.le_of_ble_eq_true rfl) (we_X5_proof s v1 v2 o h ⟨rfl, rfl⟩)
def j_X5_believes (s : dp_Z) (v1 : Int32) : Option (Int32 × dp_Z) := (dp_bd (j_X2_has s v1) fun x1 => (if x1 = (0 : Int32) then (some ((-1 : Int32), s)) else (dp_bd (j_X0_soleGreatest s v1 (s.1 5)) fun x2 => (some (x2.1, x2.2)))))
set_option maxHeartbeats 1000000 in
set_option maxRecDepth 20000 in
theorem we_X5_believes {post : Option dp_V → dp_H → Prop} {h0 : dp_H} (s : dp_Z) (v1 : Int32) (o : (Int32 × dp_Z)) (h : j_X5_believes s v1 = some o) (hk : post (some (.inl o.1)) (hX o.2)) : dp_W 4 mX5_believes false h0 0 0 post 0 0 (0, [some (.inr (some 0)), some (.inl v1)], [], (hX s)) := by
  unfold j_X5_believes at h
  refine dp_blk okX5_believes 3 (S' := (5, [some (.inr (some 0)), some (.inl v1)], [.inl v1, .inr (some 1)], (hX s))) rfl ?_
  obtain ⟨x1, hc, h⟩ := dp_bd_inv h
  refine dp_cV okX5_believes okX2_has (as := [.inl v1]) (r := []) rfl lk_NearLiars_52 npX2_has (c_X2_has s v1 x1 hc) rfl rfl rfl rfl (Nat.le_of_ble_eq_true rfl) (Nat.le_of_ble_eq_true rfl) (Nat.le_refl _) (Nat.le_refl _) ?_
  refine dp_blk okX5_believes 0 (S' := (8, [some (.inr (some 0)), some (.inl v1)], [.inl x1], (hX s))) rfl ?_
  refine dp_if0 okX5_believes rfl (fun (c : x1 = (0 : Int32)) => ?_) (fun (c : ¬ x1 = (0 : Int32)) => ?_)
  · have h := dp_ip c h
    refine dp_blk okX5_believes 1 (S' := (30, [some (.inr (some 0)), some (.inl v1)], [.inl (-1 : Int32)], (hX s))) rfl ?_
    cases h
    exact dp_iret okX5_believes rfl rfl hk
  · have h := dp_ic c h
    refine dp_blk okX5_believes 6 (S' := (23, [some (.inr (some 0)), some (.inl v1)], [.inl (s.1 5), .inl v1, .inr (some 12)], (hX s))) rfl ?_
    obtain ⟨x2, hc, h⟩ := dp_bd_inv h
    refine dp_cV okX5_believes okX0_soleGreatest (as := [.inl v1, .inl (s.1 5)]) (r := []) rfl lk_NearLiars_216 npX0_soleGreatest (c_X0_soleGreatest s v1 (s.1 5) x2 hc) rfl rfl rfl rfl (Nat.le_of_ble_eq_true rfl) (Nat.le_of_ble_eq_true rfl) (Nat.le_refl _) (Nat.le_refl _) ?_
    refine dp_blk okX5_believes 1 (S' := (30, [some (.inr (some 0)), some (.inl v1)], [.inl x2.1], (hX x2.2))) rfl ?_
    cases h
    exact dp_iret okX5_believes rfl rfl hk
theorem c_X5_believes (s : dp_Z) (v1 : Int32) (o : (Int32 × dp_Z)) (h : j_X5_believes s v1 = some o) : dp_C 4 mX5_believes false [.inr (some 0), .inl v1] (hX s) 0 0 (dp_R (some (.inl o.1)) (hX o.2)) := dp_C_of okX5_believes [some (.inr (some 0)), some (.inl v1)] rfl (Nat.le_of_ble_eq_true rfl) (we_X5_believes s v1 o h ⟨rfl, rfl⟩)
def j_X5_many (s : dp_Z) (v1 : Int32) : Option Int32 := (dp_bd (j_X2_all s) fun x1 => (dp_bd (j_X2_liars s) fun x2 => (if v1 = (0 : Int32) then (some (s.1 0)) else (if v1 = (1 : Int32) then (dp_bd (j_X2_pairs s) fun x3 => (some x3)) else (if v1 = (2 : Int32) then (dp_bd (j_X2_liars s) fun x4 => (dp_bd (j_J6_bitCount_0f7a4 x4) fun x5 => (some x5))) else (if v1 = (3 : Int32) then (some (s.1 6)) else (if v1 = (4 : Int32) then (some (s.1 7)) else (if v1 = (5 : Int32) then (dp_bd (j_X3_right s (x1 &&& (x2 ^^^ (-1 : Int32)))) fun x6 => (some x6)) else (if v1 = (6 : Int32) then (dp_bd (j_X3_misled s (x1 &&& (x2 ^^^ (-1 : Int32)))) fun x7 => (some x7)) else (if v1 = (7 : Int32) then (some (s.1 13)) else (if v1 = (8 : Int32) then (some (s.1 16)) else (if v1 = (9 : Int32) then (some (s.1 15)) else (if v1 = (10 : Int32) then (some (s.1 2)) else (some (-2 : Int32)))))))))))))))
set_option maxHeartbeats 1000000 in
set_option maxRecDepth 20000 in
theorem we_X5_many {post : Option dp_V → dp_H → Prop} {h0 : dp_H} (s : dp_Z) (v1 : Int32) (o : Int32) (h : j_X5_many s v1 = some o) (hk : post (some (.inl o)) (hX s)) : dp_W 2 mX5_many false h0 0 0 post 0 0 (0, [some (.inr (some 0)), some (.inl v1), none], [], (hX s)) := by
  unfold j_X5_many at h
  refine dp_blk okX5_many 2 (S' := (4, [some (.inr (some 0)), some (.inl v1), none], [.inr (some 1)], (hX s))) rfl ?_
  obtain ⟨x1, hc, h⟩ := dp_bd_inv h
  refine dp_cV okX5_many okX2_all (as := []) (r := []) rfl lk_NearLiars_219 npX2_all (c_X2_all s x1 hc) rfl rfl rfl rfl (Nat.le_of_ble_eq_true rfl) (Nat.le_of_ble_eq_true rfl) (Nat.le_refl _) (Nat.le_refl _) ?_
  refine dp_blk okX5_many 2 (S' := (11, [some (.inr (some 0)), some (.inl v1), none], [.inr (some 1), .inl x1], (hX s))) rfl ?_
  obtain ⟨x2, hc, h⟩ := dp_bd_inv h
  refine dp_cV okX5_many okX2_liars (as := []) (r := [.inl x1]) rfl lk_NearLiars_120 npX2_liars (c_X2_liars s x2 hc) rfl rfl rfl rfl (Nat.le_of_ble_eq_true rfl) (Nat.le_of_ble_eq_true rfl) (Nat.le_refl _) (Nat.le_refl _) ?_
  refine dp_blk okX5_many 5 (S' := (19, [some (.inr (some 0)), some (.inl v1), some (.inl (x1 &&& (x2 ^^^ (-1 : Int32))))], [.inl v1], (hX s))) rfl ?_
  by_cases c0 : v1 = (0 : Int32)
  · have h := dp_ip c0 h
    refine dp_swI okX5_many (tgt := 76) rfl (by rw [c0]; exact ⟨by decide, by decide, rfl, by decide⟩) ?_
    refine dp_blk okX5_many 3 (S' := (83, [some (.inr (some 0)), some (.inl v1), some (.inl (x1 &&& (x2 ^^^ (-1 : Int32))))], [.inl (s.1 0)], (hX s))) rfl ?_
    cases h
    exact dp_iret okX5_many rfl rfl hk
  have h := dp_ic c0 h
  by_cases c1 : v1 = (1 : Int32)
  · have h := dp_ip c1 h
    refine dp_swI okX5_many (tgt := 84) rfl (by rw [c1]; exact ⟨by decide, by decide, rfl, by decide⟩) ?_
    refine dp_blk okX5_many 2 (S' := (88, [some (.inr (some 0)), some (.inl v1), some (.inl (x1 &&& (x2 ^^^ (-1 : Int32))))], [.inr (some 1)], (hX s))) rfl ?_
    obtain ⟨x3, hc, h⟩ := dp_bd_inv h
    refine dp_cV okX5_many okX2_pairs (as := []) (r := []) rfl lk_NearLiars_223 npX2_pairs (c_X2_pairs s x3 hc) rfl rfl rfl rfl (Nat.le_of_ble_eq_true rfl) (Nat.le_of_ble_eq_true rfl) (Nat.le_refl _) (Nat.le_refl _) ?_
    refine dp_blk okX5_many 0 (S' := (91, [some (.inr (some 0)), some (.inl v1), some (.inl (x1 &&& (x2 ^^^ (-1 : Int32))))], [.inl x3], (hX s))) rfl ?_
    cases h
    exact dp_iret okX5_many rfl rfl hk
  have h := dp_ic c1 h
  by_cases c2 : v1 = (2 : Int32)
  · have h := dp_ip c2 h
    refine dp_swI okX5_many (tgt := 92) rfl (by rw [c2]; exact ⟨by decide, by decide, rfl, by decide⟩) ?_
    refine dp_blk okX5_many 2 (S' := (96, [some (.inr (some 0)), some (.inl v1), some (.inl (x1 &&& (x2 ^^^ (-1 : Int32))))], [.inr (some 1)], (hX s))) rfl ?_
    obtain ⟨x4, hc, h⟩ := dp_bd_inv h
    refine dp_cV okX5_many okX2_liars (as := []) (r := []) rfl lk_NearLiars_120 npX2_liars (c_X2_liars s x4 hc) rfl rfl rfl rfl (Nat.le_of_ble_eq_true rfl) (Nat.le_of_ble_eq_true rfl) (Nat.le_refl _) (Nat.le_refl _) ?_
    refine dp_blk okX5_many 0 (S' := (99, [some (.inr (some 0)), some (.inl v1), some (.inl (x1 &&& (x2 ^^^ (-1 : Int32))))], [.inl x4], (hX s))) rfl ?_
    obtain ⟨x5, hc, h⟩ := dp_bd_inv h
    refine dp_cS okX5_many okJ6_bitCount_0f7a4 (as := [.inl x4]) (r := []) rfl lk_NearLiars_124 npJ6_bitCount_0f7a4 (c_J6_bitCount_0f7a4 (hX s) x4 x5 hc) rfl (Nat.le_of_ble_eq_true rfl) (Nat.le_of_ble_eq_true rfl) (Nat.le_refl _) (Nat.le_refl _) ?_
    refine dp_blk okX5_many 0 (S' := (102, [some (.inr (some 0)), some (.inl v1), some (.inl (x1 &&& (x2 ^^^ (-1 : Int32))))], [.inl x5], (hX s))) rfl ?_
    cases h
    exact dp_iret okX5_many rfl rfl hk
  have h := dp_ic c2 h
  by_cases c3 : v1 = (3 : Int32)
  · have h := dp_ip c3 h
    refine dp_swI okX5_many (tgt := 103) rfl (by rw [c3]; exact ⟨by decide, by decide, rfl, by decide⟩) ?_
    refine dp_blk okX5_many 3 (S' := (110, [some (.inr (some 0)), some (.inl v1), some (.inl (x1 &&& (x2 ^^^ (-1 : Int32))))], [.inl (s.1 6)], (hX s))) rfl ?_
    cases h
    exact dp_iret okX5_many rfl rfl hk
  have h := dp_ic c3 h
  by_cases c4 : v1 = (4 : Int32)
  · have h := dp_ip c4 h
    refine dp_swI okX5_many (tgt := 111) rfl (by rw [c4]; exact ⟨by decide, by decide, rfl, by decide⟩) ?_
    refine dp_blk okX5_many 3 (S' := (118, [some (.inr (some 0)), some (.inl v1), some (.inl (x1 &&& (x2 ^^^ (-1 : Int32))))], [.inl (s.1 7)], (hX s))) rfl ?_
    cases h
    exact dp_iret okX5_many rfl rfl hk
  have h := dp_ic c4 h
  by_cases c5 : v1 = (5 : Int32)
  · have h := dp_ip c5 h
    refine dp_swI okX5_many (tgt := 119) rfl (by rw [c5]; exact ⟨by decide, by decide, rfl, by decide⟩) ?_
    refine dp_blk okX5_many 5 (S' := (128, [some (.inr (some 0)), some (.inl v1), some (.inl (x1 &&& (x2 ^^^ (-1 : Int32))))], [.inl (x1 &&& (x2 ^^^ (-1 : Int32))), .inr (some 1), .inr (some 4)], (hX s))) rfl ?_
    obtain ⟨x6, hc, h⟩ := dp_bd_inv h
    refine dp_cV okX5_many okX3_right (as := [.inr (some 1), .inl (x1 &&& (x2 ^^^ (-1 : Int32)))]) (r := []) rfl lk_NearLiars_129 npX3_right (c_X3_right s (x1 &&& (x2 ^^^ (-1 : Int32))) x6 hc) rfl rfl rfl rfl (Nat.le_of_ble_eq_true rfl) (Nat.le_of_ble_eq_true rfl) (Nat.le_refl _) (Nat.le_refl _) ?_
    refine dp_blk okX5_many 0 (S' := (131, [some (.inr (some 0)), some (.inl v1), some (.inl (x1 &&& (x2 ^^^ (-1 : Int32))))], [.inl x6], (hX s))) rfl ?_
    cases h
    exact dp_iret okX5_many rfl rfl hk
  have h := dp_ic c5 h
  by_cases c6 : v1 = (6 : Int32)
  · have h := dp_ip c6 h
    refine dp_swI okX5_many (tgt := 132) rfl (by rw [c6]; exact ⟨by decide, by decide, rfl, by decide⟩) ?_
    refine dp_blk okX5_many 5 (S' := (141, [some (.inr (some 0)), some (.inl v1), some (.inl (x1 &&& (x2 ^^^ (-1 : Int32))))], [.inl (x1 &&& (x2 ^^^ (-1 : Int32))), .inr (some 1), .inr (some 4)], (hX s))) rfl ?_
    obtain ⟨x7, hc, h⟩ := dp_bd_inv h
    refine dp_cV okX5_many okX3_misled (as := [.inr (some 1), .inl (x1 &&& (x2 ^^^ (-1 : Int32)))]) (r := []) rfl lk_NearLiars_133 npX3_misled (c_X3_misled s (x1 &&& (x2 ^^^ (-1 : Int32))) x7 hc) rfl rfl rfl rfl (Nat.le_of_ble_eq_true rfl) (Nat.le_of_ble_eq_true rfl) (Nat.le_refl _) (Nat.le_refl _) ?_
    refine dp_blk okX5_many 0 (S' := (144, [some (.inr (some 0)), some (.inl v1), some (.inl (x1 &&& (x2 ^^^ (-1 : Int32))))], [.inl x7], (hX s))) rfl ?_
    cases h
    exact dp_iret okX5_many rfl rfl hk
  have h := dp_ic c6 h
  by_cases c7 : v1 = (7 : Int32)
  · have h := dp_ip c7 h
    refine dp_swI okX5_many (tgt := 145) rfl (by rw [c7]; exact ⟨by decide, by decide, rfl, by decide⟩) ?_
    refine dp_blk okX5_many 3 (S' := (152, [some (.inr (some 0)), some (.inl v1), some (.inl (x1 &&& (x2 ^^^ (-1 : Int32))))], [.inl (s.1 13)], (hX s))) rfl ?_
    cases h
    exact dp_iret okX5_many rfl rfl hk
  have h := dp_ic c7 h
  by_cases c8 : v1 = (8 : Int32)
  · have h := dp_ip c8 h
    refine dp_swI okX5_many (tgt := 153) rfl (by rw [c8]; exact ⟨by decide, by decide, rfl, by decide⟩) ?_
    refine dp_blk okX5_many 3 (S' := (160, [some (.inr (some 0)), some (.inl v1), some (.inl (x1 &&& (x2 ^^^ (-1 : Int32))))], [.inl (s.1 16)], (hX s))) rfl ?_
    cases h
    exact dp_iret okX5_many rfl rfl hk
  have h := dp_ic c8 h
  by_cases c9 : v1 = (9 : Int32)
  · have h := dp_ip c9 h
    refine dp_swI okX5_many (tgt := 161) rfl (by rw [c9]; exact ⟨by decide, by decide, rfl, by decide⟩) ?_
    refine dp_blk okX5_many 3 (S' := (168, [some (.inr (some 0)), some (.inl v1), some (.inl (x1 &&& (x2 ^^^ (-1 : Int32))))], [.inl (s.1 15)], (hX s))) rfl ?_
    cases h
    exact dp_iret okX5_many rfl rfl hk
  have h := dp_ic c9 h
  by_cases c10 : v1 = (10 : Int32)
  · have h := dp_ip c10 h
    refine dp_swI okX5_many (tgt := 169) rfl (by rw [c10]; exact ⟨by decide, by decide, rfl, by decide⟩) ?_
    refine dp_blk okX5_many 3 (S' := (176, [some (.inr (some 0)), some (.inl v1), some (.inl (x1 &&& (x2 ^^^ (-1 : Int32))))], [.inl (s.1 2)], (hX s))) rfl ?_
    cases h
    exact dp_iret okX5_many rfl rfl hk
  have h := dp_ic c10 h
  refine dp_swO okX5_many (tgt := 177) rfl (dp_out 10 (by decide) (fun j hj => ?_)) (by decide) ?_
  · rcases (show j = 0 ∨ j = 1 ∨ j = 2 ∨ j = 3 ∨ j = 4 ∨ j = 5 ∨ j = 6 ∨ j = 7 ∨ j = 8 ∨ j = 9 ∨ j = 10 by omega) with rfl | rfl | rfl | rfl | rfl | rfl | rfl | rfl | rfl | rfl | rfl
    · exact c0
    · exact c1
    · exact c2
    · exact c3
    · exact c4
    · exact c5
    · exact c6
    · exact c7
    · exact c8
    · exact c9
    · exact c10
  refine dp_blk okX5_many 1 (S' := (179, [some (.inr (some 0)), some (.inl v1), some (.inl (x1 &&& (x2 ^^^ (-1 : Int32))))], [.inl (-2 : Int32)], (hX s))) rfl ?_
  cases h
  exact dp_iret okX5_many rfl rfl hk
theorem c_X5_many (s : dp_Z) (v1 : Int32) (o : Int32) (h : j_X5_many s v1 = some o) : dp_C 2 mX5_many false [.inr (some 0), .inl v1] (hX s) 0 0 (dp_R (some (.inl o)) (hX s)) := dp_C_of okX5_many [some (.inr (some 0)), some (.inl v1), none] rfl (Nat.le_of_ble_eq_true rfl) (we_X5_many s v1 o h ⟨rfl, rfl⟩)
