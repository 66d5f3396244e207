/-! ===== printed by program: the pure functions of the methods, and that the bytecode does what they say ===== -/
def hX (s : dp_Z) : dp_H := [.inr (5, [.inr (some 1), .inr (some 4), .inr (some 9), .inr (some 10), .inr (some 12)]), .inr (2, [.inr (some 2), .inr (some 3), .inl (s.1 0), .inl (s.1 1), .inl (s.1 2), .inl (s.1 3), .inl (s.1 4), .inl (s.1 5)]), .inl (false, 12, s.2 0), .inl (false, 12, s.2 1), .inr (3, [.inr (some 5), .inr (some 6), .inr (some 7), .inr (some 8), .inl (s.1 6), .inl (s.1 7), .inl (s.1 8)]), .inl (false, 12, s.2 2), .inl (false, 12, s.2 3), .inl (false, 12, s.2 4), .inl (false, 48, s.2 5), .inr (4, [.inl (s.1 9), .inl (s.1 10), .inl (s.1 11), .inl (s.1 12)]), .inr (1, [.inr (some 11), .inl (s.1 13)]), .inl (false, 6, s.2 6), .inr (0, [.inr (some 13), .inr (some 14), .inr (some 15), .inr (some 16), .inr (some 17), .inr (some 18), .inl (s.1 14), .inl (s.1 15), .inl (s.1 16)]), .inl (false, 12, s.2 7), .inl (false, 96, s.2 8), .inl (false, 8, s.2 9), .inl (false, 8, s.2 10), .inl (false, 8, s.2 11), .inl (false, 8, s.2 12)]
def fhX_0 (s : dp_Z) : List dp_V := [.inr (some 1), .inr (some 4), .inr (some 9), .inr (some 10), .inr (some 12)]
theorem qhX_0 (s : dp_Z) : (hX s)[0]? = some (.inr (5, fhX_0 s)) := rfl
def fhX_1 (s : dp_Z) : List dp_V := [.inr (some 2), .inr (some 3), .inl (s.1 0), .inl (s.1 1), .inl (s.1 2), .inl (s.1 3), .inl (s.1 4), .inl (s.1 5)]
theorem qhX_1 (s : dp_Z) : (hX s)[1]? = some (.inr (2, fhX_1 s)) := rfl
theorem phX_0 (s : dp_Z) (x : Int32) : (hX s).set 1 (.inr (2, (fhX_1 s).set 2 (.inl x))) = hX (dp_sf s 0 x) := rfl
theorem phX_1 (s : dp_Z) (x : Int32) : (hX s).set 1 (.inr (2, (fhX_1 s).set 3 (.inl x))) = hX (dp_sf s 1 x) := rfl
theorem phX_2 (s : dp_Z) (x : Int32) : (hX s).set 1 (.inr (2, (fhX_1 s).set 4 (.inl x))) = hX (dp_sf s 2 x) := rfl
theorem phX_3 (s : dp_Z) (x : Int32) : (hX s).set 1 (.inr (2, (fhX_1 s).set 5 (.inl x))) = hX (dp_sf s 3 x) := rfl
theorem phX_4 (s : dp_Z) (x : Int32) : (hX s).set 1 (.inr (2, (fhX_1 s).set 6 (.inl x))) = hX (dp_sf s 4 x) := rfl
theorem phX_5 (s : dp_Z) (x : Int32) : (hX s).set 1 (.inr (2, (fhX_1 s).set 7 (.inl x))) = hX (dp_sf s 5 x) := rfl
theorem ahX_0 (s : dp_Z) (f : Nat → Int32) : (hX s).set 2 (.inl (false, 12, f)) = hX (dp_sr s 0 f) := rfl
theorem ahX_1 (s : dp_Z) (f : Nat → Int32) : (hX s).set 3 (.inl (false, 12, f)) = hX (dp_sr s 1 f) := rfl
def fhX_4 (s : dp_Z) : List dp_V := [.inr (some 5), .inr (some 6), .inr (some 7), .inr (some 8), .inl (s.1 6), .inl (s.1 7), .inl (s.1 8)]
theorem qhX_4 (s : dp_Z) : (hX s)[4]? = some (.inr (3, fhX_4 s)) := rfl
theorem phX_6 (s : dp_Z) (x : Int32) : (hX s).set 4 (.inr (3, (fhX_4 s).set 4 (.inl x))) = hX (dp_sf s 6 x) := rfl
theorem phX_7 (s : dp_Z) (x : Int32) : (hX s).set 4 (.inr (3, (fhX_4 s).set 5 (.inl x))) = hX (dp_sf s 7 x) := rfl
theorem phX_8 (s : dp_Z) (x : Int32) : (hX s).set 4 (.inr (3, (fhX_4 s).set 6 (.inl x))) = hX (dp_sf s 8 x) := rfl
theorem ahX_2 (s : dp_Z) (f : Nat → Int32) : (hX s).set 5 (.inl (false, 12, f)) = hX (dp_sr s 2 f) := rfl
theorem ahX_3 (s : dp_Z) (f : Nat → Int32) : (hX s).set 6 (.inl (false, 12, f)) = hX (dp_sr s 3 f) := rfl
theorem ahX_4 (s : dp_Z) (f : Nat → Int32) : (hX s).set 7 (.inl (false, 12, f)) = hX (dp_sr s 4 f) := rfl
theorem ahX_5 (s : dp_Z) (f : Nat → Int32) : (hX s).set 8 (.inl (false, 48, f)) = hX (dp_sr s 5 f) := rfl
def fhX_9 (s : dp_Z) : List dp_V := [.inl (s.1 9), .inl (s.1 10), .inl (s.1 11), .inl (s.1 12)]
theorem qhX_9 (s : dp_Z) : (hX s)[9]? = some (.inr (4, fhX_9 s)) := rfl
theorem phX_9 (s : dp_Z) (x : Int32) : (hX s).set 9 (.inr (4, (fhX_9 s).set 0 (.inl x))) = hX (dp_sf s 9 x) := rfl
theorem phX_10 (s : dp_Z) (x : Int32) : (hX s).set 9 (.inr (4, (fhX_9 s).set 1 (.inl x))) = hX (dp_sf s 10 x) := rfl
theorem phX_11 (s : dp_Z) (x : Int32) : (hX s).set 9 (.inr (4, (fhX_9 s).set 2 (.inl x))) = hX (dp_sf s 11 x) := rfl
theorem phX_12 (s : dp_Z) (x : Int32) : (hX s).set 9 (.inr (4, (fhX_9 s).set 3 (.inl x))) = hX (dp_sf s 12 x) := rfl
def fhX_10 (s : dp_Z) : List dp_V := [.inr (some 11), .inl (s.1 13)]
theorem qhX_10 (s : dp_Z) : (hX s)[10]? = some (.inr (1, fhX_10 s)) := rfl
theorem phX_13 (s : dp_Z) (x : Int32) : (hX s).set 10 (.inr (1, (fhX_10 s).set 1 (.inl x))) = hX (dp_sf s 13 x) := rfl
theorem ahX_6 (s : dp_Z) (f : Nat → Int32) : (hX s).set 11 (.inl (false, 6, f)) = hX (dp_sr s 6 f) := rfl
def fhX_12 (s : dp_Z) : List dp_V := [.inr (some 13), .inr (some 14), .inr (some 15), .inr (some 16), .inr (some 17), .inr (some 18), .inl (s.1 14), .inl (s.1 15), .inl (s.1 16)]
theorem qhX_12 (s : dp_Z) : (hX s)[12]? = some (.inr (0, fhX_12 s)) := rfl
theorem phX_14 (s : dp_Z) (x : Int32) : (hX s).set 12 (.inr (0, (fhX_12 s).set 6 (.inl x))) = hX (dp_sf s 14 x) := rfl
theorem phX_15 (s : dp_Z) (x : Int32) : (hX s).set 12 (.inr (0, (fhX_12 s).set 7 (.inl x))) = hX (dp_sf s 15 x) := rfl
theorem phX_16 (s : dp_Z) (x : Int32) : (hX s).set 12 (.inr (0, (fhX_12 s).set 8 (.inl x))) = hX (dp_sf s 16 x) := rfl
theorem ahX_7 (s : dp_Z) (f : Nat → Int32) : (hX s).set 13 (.inl (false, 12, f)) = hX (dp_sr s 7 f) := rfl
theorem ahX_8 (s : dp_Z) (f : Nat → Int32) : (hX s).set 14 (.inl (false, 96, f)) = hX (dp_sr s 8 f) := rfl
theorem ahX_9 (s : dp_Z) (f : Nat → Int32) : (hX s).set 15 (.inl (false, 8, f)) = hX (dp_sr s 9 f) := rfl
theorem ahX_10 (s : dp_Z) (f : Nat → Int32) : (hX s).set 16 (.inl (false, 8, f)) = hX (dp_sr s 10 f) := rfl
theorem ahX_11 (s : dp_Z) (f : Nat → Int32) : (hX s).set 17 (.inl (false, 8, f)) = hX (dp_sr s 11 f) := rfl
theorem ahX_12 (s : dp_Z) (f : Nat → Int32) : (hX s).set 18 (.inl (false, 8, f)) = hX (dp_sr s 12 f) := rfl
def hM (s : dp_Z) : dp_H := [.inr (6, [.inl (s.1 0), .inl (s.1 1), .inl (s.1 2), .inr (some 1), .inl (s.1 3), .inl (s.1 4), .inl (s.1 5), .inr (some 2), .inr (some 3), .inl (s.1 6), .inl (s.1 7), .inr (some 4), .inr (some 5), .inr (some 6), .inr (some 7), .inl (s.1 8), .inl (s.1 9), .inl (s.1 10), .inl (s.1 11), .inr (some 8), .inl (s.1 12), .inr (some 9), .inl (s.1 13), .inr (some 10), .inr (some 11), .inr (some 12)]), .inl (false, 12, s.2 0), .inl (false, 12, s.2 1), .inl (false, 12, s.2 2), .inl (false, 12, s.2 3), .inl (false, 12, s.2 4), .inl (true, 12, s.2 5), .inl (false, 48, s.2 6), .inl (false, 6, s.2 7), .inl (false, 12, s.2 8), .inl (false, 8, s.2 9), .inl (false, 8, s.2 10), .inl (false, 96, s.2 11)]
def fhM_0 (s : dp_Z) : List dp_V := [.inl (s.1 0), .inl (s.1 1), .inl (s.1 2), .inr (some 1), .inl (s.1 3), .inl (s.1 4), .inl (s.1 5), .inr (some 2), .inr (some 3), .inl (s.1 6), .inl (s.1 7), .inr (some 4), .inr (some 5), .inr (some 6), .inr (some 7), .inl (s.1 8), .inl (s.1 9), .inl (s.1 10), .inl (s.1 11), .inr (some 8), .inl (s.1 12), .inr (some 9), .inl (s.1 13), .inr (some 10), .inr (some 11), .inr (some 12)]
theorem qhM_0 (s : dp_Z) : (hM s)[0]? = some (.inr (6, fhM_0 s)) := rfl
theorem phM_0 (s : dp_Z) (x : Int32) : (hM s).set 0 (.inr (6, (fhM_0 s).set 0 (.inl x))) = hM (dp_sf s 0 x) := rfl
theorem phM_1 (s : dp_Z) (x : Int32) : (hM s).set 0 (.inr (6, (fhM_0 s).set 1 (.inl x))) = hM (dp_sf s 1 x) := rfl
theorem phM_2 (s : dp_Z) (x : Int32) : (hM s).set 0 (.inr (6, (fhM_0 s).set 2 (.inl x))) = hM (dp_sf s 2 x) := rfl
theorem phM_3 (s : dp_Z) (x : Int32) : (hM s).set 0 (.inr (6, (fhM_0 s).set 4 (.inl x))) = hM (dp_sf s 3 x) := rfl
theorem phM_4 (s : dp_Z) (x : Int32) : (hM s).set 0 (.inr (6, (fhM_0 s).set 5 (.inl x))) = hM (dp_sf s 4 x) := rfl
theorem phM_5 (s : dp_Z) (x : Int32) : (hM s).set 0 (.inr (6, (fhM_0 s).set 6 (.inl x))) = hM (dp_sf s 5 x) := rfl
theorem phM_6 (s : dp_Z) (x : Int32) : (hM s).set 0 (.inr (6, (fhM_0 s).set 9 (.inl x))) = hM (dp_sf s 6 x) := rfl
theorem phM_7 (s : dp_Z) (x : Int32) : (hM s).set 0 (.inr (6, (fhM_0 s).set 10 (.inl x))) = hM (dp_sf s 7 x) := rfl
theorem phM_8 (s : dp_Z) (x : Int32) : (hM s).set 0 (.inr (6, (fhM_0 s).set 15 (.inl x))) = hM (dp_sf s 8 x) := rfl
theorem phM_9 (s : dp_Z) (x : Int32) : (hM s).set 0 (.inr (6, (fhM_0 s).set 16 (.inl x))) = hM (dp_sf s 9 x) := rfl
theorem phM_10 (s : dp_Z) (x : Int32) : (hM s).set 0 (.inr (6, (fhM_0 s).set 17 (.inl x))) = hM (dp_sf s 10 x) := rfl
theorem phM_11 (s : dp_Z) (x : Int32) : (hM s).set 0 (.inr (6, (fhM_0 s).set 18 (.inl x))) = hM (dp_sf s 11 x) := rfl
theorem phM_12 (s : dp_Z) (x : Int32) : (hM s).set 0 (.inr (6, (fhM_0 s).set 20 (.inl x))) = hM (dp_sf s 12 x) := rfl
theorem phM_13 (s : dp_Z) (x : Int32) : (hM s).set 0 (.inr (6, (fhM_0 s).set 22 (.inl x))) = hM (dp_sf s 13 x) := rfl
theorem ahM_0 (s : dp_Z) (f : Nat → Int32) : (hM s).set 1 (.inl (false, 12, f)) = hM (dp_sr s 0 f) := rfl
theorem ahM_1 (s : dp_Z) (f : Nat → Int32) : (hM s).set 2 (.inl (false, 12, f)) = hM (dp_sr s 1 f) := rfl
theorem ahM_2 (s : dp_Z) (f : Nat → Int32) : (hM s).set 3 (.inl (false, 12, f)) = hM (dp_sr s 2 f) := rfl
theorem ahM_3 (s : dp_Z) (f : Nat → Int32) : (hM s).set 4 (.inl (false, 12, f)) = hM (dp_sr s 3 f) := rfl
theorem ahM_4 (s : dp_Z) (f : Nat → Int32) : (hM s).set 5 (.inl (false, 12, f)) = hM (dp_sr s 4 f) := rfl
theorem ahM_5 (s : dp_Z) (f : Nat → Int32) : (hM s).set 6 (.inl (true, 12, f)) = hM (dp_sr s 5 f) := rfl
theorem ahM_6 (s : dp_Z) (f : Nat → Int32) : (hM s).set 7 (.inl (false, 48, f)) = hM (dp_sr s 6 f) := rfl
theorem ahM_7 (s : dp_Z) (f : Nat → Int32) : (hM s).set 8 (.inl (false, 6, f)) = hM (dp_sr s 7 f) := rfl
theorem ahM_8 (s : dp_Z) (f : Nat → Int32) : (hM s).set 9 (.inl (false, 12, f)) = hM (dp_sr s 8 f) := rfl
theorem ahM_9 (s : dp_Z) (f : Nat → Int32) : (hM s).set 10 (.inl (false, 8, f)) = hM (dp_sr s 9 f) := rfl
theorem ahM_10 (s : dp_Z) (f : Nat → Int32) : (hM s).set 11 (.inl (false, 8, f)) = hM (dp_sr s 10 f) := rfl
theorem ahM_11 (s : dp_Z) (f : Nat → Int32) : (hM s).set 12 (.inl (false, 96, f)) = hM (dp_sr s 11 f) := rfl
def hN (s : dp_Z) : dp_H := [.inr (5, [.inr none, .inr none, .inr none, .inr none, .inr none]), .inr (2, [.inr (some 2), .inr (some 3), .inl (s.1 0), .inl (s.1 1), .inl (s.1 2), .inl (s.1 3), .inl (s.1 4), .inl (s.1 5)]), .inl (false, 12, s.2 0), .inl (false, 12, s.2 1)]
def fhN_0 (s : dp_Z) : List dp_V := [.inr none, .inr none, .inr none, .inr none, .inr none]
theorem qhN_0 (s : dp_Z) : (hN s)[0]? = some (.inr (5, fhN_0 s)) := rfl
def fhN_1 (s : dp_Z) : List dp_V := [.inr (some 2), .inr (some 3), .inl (s.1 0), .inl (s.1 1), .inl (s.1 2), .inl (s.1 3), .inl (s.1 4), .inl (s.1 5)]
theorem qhN_1 (s : dp_Z) : (hN s)[1]? = some (.inr (2, fhN_1 s)) := rfl
theorem phN_0 (s : dp_Z) (x : Int32) : (hN s).set 1 (.inr (2, (fhN_1 s).set 2 (.inl x))) = hN (dp_sf s 0 x) := rfl
theorem phN_1 (s : dp_Z) (x : Int32) : (hN s).set 1 (.inr (2, (fhN_1 s).set 3 (.inl x))) = hN (dp_sf s 1 x) := rfl
theorem phN_2 (s : dp_Z) (x : Int32) : (hN s).set 1 (.inr (2, (fhN_1 s).set 4 (.inl x))) = hN (dp_sf s 2 x) := rfl
theorem phN_3 (s : dp_Z) (x : Int32) : (hN s).set 1 (.inr (2, (fhN_1 s).set 5 (.inl x))) = hN (dp_sf s 3 x) := rfl
theorem phN_4 (s : dp_Z) (x : Int32) : (hN s).set 1 (.inr (2, (fhN_1 s).set 6 (.inl x))) = hN (dp_sf s 4 x) := rfl
theorem phN_5 (s : dp_Z) (x : Int32) : (hN s).set 1 (.inr (2, (fhN_1 s).set 7 (.inl x))) = hN (dp_sf s 5 x) := rfl
theorem ahN_0 (s : dp_Z) (f : Nat → Int32) : (hN s).set 2 (.inl (false, 12, f)) = hN (dp_sr s 0 f) := rfl
theorem ahN_1 (s : dp_Z) (f : Nat → Int32) : (hN s).set 3 (.inl (false, 12, f)) = hN (dp_sr s 1 f) := rfl
def jb_J7_fill_53178_q3_5 (v1 v3 : Int32) (x : (dp_Z × Int32)) : Option ((dp_Z × Int32) ⊕ dp_Z) := (if v3 ≤ x.2 then (some (.inr x.1)) else (if dp_inb x.2 12 = true then (dp_bd (some (dp_sr x.1 1 (upd (x.1.2 1) (x.2).toNatClampNeg v1))) fun s1 => (some (.inl (s1, (x.2 + (1 : Int32)))))) else none))
set_option maxHeartbeats 1000000 in
set_option maxRecDepth 20000 in
theorem wl_J7_fill_53178_q3_5 {post : Option dp_V → dp_H → Prop} {h0 : dp_H} (v1 v3 : Int32) (x : (dp_Z × Int32)) (o : ((dp_Z × Int32) ⊕ dp_Z)) (h : jb_J7_fill_53178_q3_5 v1 v3 x = some o) (hk : dp_LK (fun x : (dp_Z × Int32) => dp_W 0 mJ7_fill_53178 false h0 0 0 post 0 0 (5, [some (.inr (some 3)), some (.inl v1), some (.inl x.2), some (.inl v3)], [], (hX x.1))) (fun x : dp_Z => dp_W 0 mJ7_fill_53178 false h0 0 0 post 0 0 (20, [none, none, none, none], [], (hX x))) o) : dp_W 0 mJ7_fill_53178 false h0 0 0 post 0 0 (5, [some (.inr (some 3)), some (.inl v1), some (.inl x.2), some (.inl v3)], [], (hX x.1)) := by
  unfold jb_J7_fill_53178_q3_5 at h
  refine dp_blk okJ7_fill_53178 2 (S' := (7, [some (.inr (some 3)), some (.inl v1), some (.inl x.2), some (.inl v3)], [.inl v3, .inl x.2], (hX x.1))) rfl ?_
  refine dp_if okJ7_fill_53178 rfl (fun (c : v3 ≤ x.2) => ?_) (fun (c : ¬ v3 ≤ x.2) => ?_)
  · have h := dp_ip c h
    refine dp_blk okJ7_fill_53178 0 (S' := (20, [some (.inr (some 3)), some (.inl v1), some (.inl x.2), some (.inl v3)], [], (hX x.1))) rfl ?_
    cases h
    refine dp_fg [false, false, false, false] (L' := [none, none, none, none]) rfl rfl ?_
    exact hk
  · have h := dp_ic c h
    refine dp_blk okJ7_fill_53178 3 (S' := (13, [some (.inr (some 3)), some (.inl v1), some (.inl x.2), some (.inl v3)], [.inl v1, .inl x.2, .inr (some 3)], (hX x.1))) rfl ?_
    obtain ⟨hi, h⟩ := dp_ite h
    obtain ⟨s1, hs, h⟩ := dp_bd_inv h
    have hs := Option.some.inj hs
    refine dp_iase (g := (x.1.2 1)) okJ7_fill_53178 rfl rfl (dp_inb_in hi) ((ahX_1 x.1 _).trans (congrArg hX hs)) ?_
    refine dp_blk okJ7_fill_53178 2 (S' := (5, [some (.inr (some 3)), some (.inl v1), some (.inl (x.2 + (1 : Int32))), some (.inl v3)], [], (hX s1))) rfl ?_
    cases h
    exact hk
def j_J7_fill_53178_q3 (s : dp_Z) (v1 : Int32) : Option dp_Z := (dp_bd (dp_loop (jb_J7_fill_53178_q3_5 v1 (Int32.ofNat 12)) dp_F (s, (0 : Int32))) fun x2 => (some x2))
set_option maxHeartbeats 1000000 in
set_option maxRecDepth 20000 in
theorem we_J7_fill_53178_q3 {post : Option dp_V → dp_H → Prop} {h0 : dp_H} (s : dp_Z) (v1 : Int32) (o : dp_Z) (h : j_J7_fill_53178_q3 s v1 = some o) (hk : post none (hX o)) : dp_W 0 mJ7_fill_53178 false h0 0 0 post 0 0 (0, [some (.inr (some 3)), some (.inl v1), none, none], [], (hX s)) := by
  unfold j_J7_fill_53178_q3 at h
  refine dp_blk okJ7_fill_53178 3 (S' := (3, [some (.inr (some 3)), some (.inl v1), some (.inl (0 : Int32)), none], [.inr (some 3)], (hX s))) rfl ?_
  refine dp_aln okJ7_fill_53178 rfl rfl ?_
  refine dp_blk okJ7_fill_53178 1 (S' := (5, [some (.inr (some 3)), some (.inl v1), some (.inl (0 : Int32)), some (.inl (Int32.ofNat 12))], [], (hX s))) rfl ?_
  obtain ⟨x2, hl, h⟩ := dp_bd_inv h
  refine dp_loopW (wl_J7_fill_53178_q3_5 v1 (Int32.ofNat 12)) dp_F (s, (0 : Int32)) x2 hl ?_
  show dp_W 0 mJ7_fill_53178 false h0 0 0 post 0 0 (20, [none, none, none, none], [], (hX x2))
  refine dp_blk okJ7_fill_53178 0 (S' := (20, [none, none, none, none], [], (hX x2))) rfl ?_
  cases h
  exact dp_vret okJ7_fill_53178 rfl rfl hk
theorem c_J7_fill_53178_q3 (s : dp_Z) (v1 : Int32) (o : dp_Z) (h : j_J7_fill_53178_q3 s v1 = some o) : dp_C 0 mJ7_fill_53178 false [.inr (some 3), .inl v1] (hX s) 0 0 (dp_R none (hX o)) := dp_C_of okJ7_fill_53178 [some (.inr (some 3)), some (.inl v1), none, none] rfl (Nat.le_of_ble_eq_true rfl) (we_J7_fill_53178_q3 s v1 o h ⟨rfl, rfl⟩)
def jb_J7_fill_53178_q2_5 (v1 v3 : Int32) (x : (dp_Z × Int32)) : Option ((dp_Z × Int32) ⊕ dp_Z) := (if v3 ≤ x.2 then (some (.inr x.1)) else (if dp_inb x.2 12 = true then (dp_bd (some (dp_sr x.1 0 (upd (x.1.2 0) (x.2).toNatClampNeg v1))) fun s1 => (some (.inl (s1, (x.2 + (1 : Int32)))))) else none))
set_option maxHeartbeats 1000000 in
set_option maxRecDepth 20000 in
theorem wl_J7_fill_53178_q2_5 {post : Option dp_V → dp_H → Prop} {h0 : dp_H} (v1 v3 : Int32) (x : (dp_Z × Int32)) (o : ((dp_Z × Int32) ⊕ dp_Z)) (h : jb_J7_fill_53178_q2_5 v1 v3 x = some o) (hk : dp_LK (fun x : (dp_Z × Int32) => dp_W 0 mJ7_fill_53178 false h0 0 0 post 0 0 (5, [some (.inr (some 2)), some (.inl v1), some (.inl x.2), some (.inl v3)], [], (hX x.1))) (fun x : dp_Z => dp_W 0 mJ7_fill_53178 false h0 0 0 post 0 0 (20, [none, none, none, none], [], (hX x))) o) : dp_W 0 mJ7_fill_53178 false h0 0 0 post 0 0 (5, [some (.inr (some 2)), some (.inl v1), some (.inl x.2), some (.inl v3)], [], (hX x.1)) := by
  unfold jb_J7_fill_53178_q2_5 at h
  refine dp_blk okJ7_fill_53178 2 (S' := (7, [some (.inr (some 2)), some (.inl v1), some (.inl x.2), some (.inl v3)], [.inl v3, .inl x.2], (hX x.1))) rfl ?_
  refine dp_if okJ7_fill_53178 rfl (fun (c : v3 ≤ x.2) => ?_) (fun (c : ¬ v3 ≤ x.2) => ?_)
  · have h := dp_ip c h
    refine dp_blk okJ7_fill_53178 0 (S' := (20, [some (.inr (some 2)), some (.inl v1), some (.inl x.2), some (.inl v3)], [], (hX x.1))) rfl ?_
    cases h
    refine dp_fg [false, false, false, false] (L' := [none, none, none, none]) rfl rfl ?_
    exact hk
  · have h := dp_ic c h
    refine dp_blk okJ7_fill_53178 3 (S' := (13, [some (.inr (some 2)), some (.inl v1), some (.inl x.2), some (.inl v3)], [.inl v1, .inl x.2, .inr (some 2)], (hX x.1))) rfl ?_
    obtain ⟨hi, h⟩ := dp_ite h
    obtain ⟨s1, hs, h⟩ := dp_bd_inv h
    have hs := Option.some.inj hs
    refine dp_iase (g := (x.1.2 0)) okJ7_fill_53178 rfl rfl (dp_inb_in hi) ((ahX_0 x.1 _).trans (congrArg hX hs)) ?_
    refine dp_blk okJ7_fill_53178 2 (S' := (5, [some (.inr (some 2)), some (.inl v1), some (.inl (x.2 + (1 : Int32))), some (.inl v3)], [], (hX s1))) rfl ?_
    cases h
    exact hk
def j_J7_fill_53178_q2 (s : dp_Z) (v1 : Int32) : Option dp_Z := (dp_bd (dp_loop (jb_J7_fill_53178_q2_5 v1 (Int32.ofNat 12)) dp_F (s, (0 : Int32))) fun x2 => (some x2))
set_option maxHeartbeats 1000000 in
set_option maxRecDepth 20000 in
theorem we_J7_fill_53178_q2 {post : Option dp_V → dp_H → Prop} {h0 : dp_H} (s : dp_Z) (v1 : Int32) (o : dp_Z) (h : j_J7_fill_53178_q2 s v1 = some o) (hk : post none (hX o)) : dp_W 0 mJ7_fill_53178 false h0 0 0 post 0 0 (0, [some (.inr (some 2)), some (.inl v1), none, none], [], (hX s)) := by
  unfold j_J7_fill_53178_q2 at h
  refine dp_blk okJ7_fill_53178 3 (S' := (3, [some (.inr (some 2)), some (.inl v1), some (.inl (0 : Int32)), none], [.inr (some 2)], (hX s))) rfl ?_
  refine dp_aln okJ7_fill_53178 rfl rfl ?_
  refine dp_blk okJ7_fill_53178 1 (S' := (5, [some (.inr (some 2)), some (.inl v1), some (.inl (0 : Int32)), some (.inl (Int32.ofNat 12))], [], (hX s))) rfl ?_
  obtain ⟨x2, hl, h⟩ := dp_bd_inv h
  refine dp_loopW (wl_J7_fill_53178_q2_5 v1 (Int32.ofNat 12)) dp_F (s, (0 : Int32)) x2 hl ?_
  show dp_W 0 mJ7_fill_53178 false h0 0 0 post 0 0 (20, [none, none, none, none], [], (hX x2))
  refine dp_blk okJ7_fill_53178 0 (S' := (20, [none, none, none, none], [], (hX x2))) rfl ?_
  cases h
  exact dp_vret okJ7_fill_53178 rfl rfl hk
theorem c_J7_fill_53178_q2 (s : dp_Z) (v1 : Int32) (o : dp_Z) (h : j_J7_fill_53178_q2 s v1 = some o) : dp_C 0 mJ7_fill_53178 false [.inr (some 2), .inl v1] (hX s) 0 0 (dp_R none (hX o)) := dp_C_of okJ7_fill_53178 [some (.inr (some 2)), some (.inl v1), none, none] rfl (Nat.le_of_ble_eq_true rfl) (we_J7_fill_53178_q2 s v1 o h ⟨rfl, rfl⟩)
def jj_X2_around_66 (s : dp_Z) (v1 v2 v3 v4 v5 v6 : Int32) : Option ((Int32 × Int32) ⊕ Int32) := (some (.inl (v4, (v6 + (1 : Int32)))))
set_option maxHeartbeats 1000000 in
set_option maxRecDepth 20000 in
theorem wj_X2_around_66 {post : Option dp_V → dp_H → Prop} {h0 : dp_H} (s : dp_Z) (v1 v2 v3 v4 v5 v6 : Int32) (o : ((Int32 × Int32) ⊕ Int32)) (h : jj_X2_around_66 s v1 v2 v3 v4 v5 v6 = some o) (hk : dp_LK (fun x : (Int32 × Int32) => dp_W 1 mX2_around false h0 0 0 post 0 0 (18, [some (.inr (some 1)), some (.inl v1), some (.inl v2), some (.inl v3), some (.inl x.1), some (.inl v5), some (.inl x.2)], [], (hX s))) (fun x : Int32 => dp_W 1 mX2_around false h0 0 0 post 0 0 (72, [some (.inr (some 1)), some (.inl v1), some (.inl v2), some (.inl v3), some (.inl x), some (.inl v5), none], [], (hX s))) o) : dp_W 1 mX2_around false h0 0 0 post 0 0 (66, [some (.inr (some 1)), some (.inl v1), some (.inl v2), some (.inl v3), some (.inl v4), some (.inl v5), some (.inl v6)], [], (hX s)) := by
  unfold jj_X2_around_66 at h
  refine dp_blk okX2_around 2 (S' := (18, [some (.inr (some 1)), some (.inl v1), some (.inl v2), some (.inl v3), some (.inl v4), some (.inl v5), some (.inl (v6 + (1 : Int32)))], [], (hX s))) rfl ?_
  cases h
  exact hk
def jb_X2_around_18 (s : dp_Z) (v1 v2 v3 v5 : Int32) (x : (Int32 × Int32)) : Option ((Int32 × Int32) ⊕ Int32) := (if (s.1 1) ≤ x.2 then (some (.inr x.1)) else (if v3 < (if (0 : Int32) ≤ (v5 - v2) then (v5 - v2) else (0 : Int32) - (v5 - v2)) then (jj_X2_around_66 s v1 v2 v3 x.1 v5 x.2) else (if v3 < (if (0 : Int32) ≤ (x.2 - v1) then (x.2 - v1) else (0 : Int32) - (x.2 - v1)) then (jj_X2_around_66 s v1 v2 v3 x.1 v5 x.2) else (jj_X2_around_66 s v1 v2 v3 (x.1 ||| ((1 : Int32) <<< ((((s.1 1) * v5) + x.2) &&& 31))) v5 x.2))))
set_option maxHeartbeats 1000000 in
set_option maxRecDepth 20000 in
theorem wl_X2_around_18 {post : Option dp_V → dp_H → Prop} {h0 : dp_H} (s : dp_Z) (v1 v2 v3 v5 : Int32) (x : (Int32 × Int32)) (o : ((Int32 × Int32) ⊕ Int32)) (h : jb_X2_around_18 s v1 v2 v3 v5 x = some o) (hk : dp_LK (fun x : (Int32 × Int32) => dp_W 1 mX2_around false h0 0 0 post 0 0 (18, [some (.inr (some 1)), some (.inl v1), some (.inl v2), some (.inl v3), some (.inl x.1), some (.inl v5), some (.inl x.2)], [], (hX s))) (fun x : Int32 => dp_W 1 mX2_around false h0 0 0 post 0 0 (72, [some (.inr (some 1)), some (.inl v1), some (.inl v2), some (.inl v3), some (.inl x), some (.inl v5), none], [], (hX s))) o) : dp_W 1 mX2_around false h0 0 0 post 0 0 (18, [some (.inr (some 1)), some (.inl v1), some (.inl v2), some (.inl v3), some (.inl x.1), some (.inl v5), some (.inl x.2)], [], (hX s)) := by
  unfold jb_X2_around_18 at h
  refine dp_blk okX2_around 3 (S' := (24, [some (.inr (some 1)), some (.inl v1), some (.inl v2), some (.inl v3), some (.inl x.1), some (.inl v5), some (.inl x.2)], [.inl (s.1 1), .inl x.2], (hX s))) rfl ?_
  refine dp_if okX2_around rfl (fun (c : (s.1 1) ≤ x.2) => ?_) (fun (c : ¬ (s.1 1) ≤ x.2) => ?_)
  · have h := dp_ip c h
    refine dp_blk okX2_around 0 (S' := (72, [some (.inr (some 1)), some (.inl v1), some (.inl v2), some (.inl v3), some (.inl x.1), some (.inl v5), some (.inl x.2)], [], (hX s))) rfl ?_
    cases h
    refine dp_fg [true, true, true, true, true, true, false] (L' := [some (.inr (some 1)), some (.inl v1), some (.inl v2), some (.inl v3), some (.inl x.1), some (.inl v5), none]) rfl rfl ?_
    exact hk
  · have h := dp_ic c h
    refine dp_blk okX2_around 3 (S' := (31, [some (.inr (some 1)), some (.inl v1), some (.inl v2), some (.inl v3), some (.inl x.1), some (.inl v5), some (.inl x.2)], [.inl (v5 - v2)], (hX s))) rfl ?_
    refine dp_mabs okX2_around rfl dq_75 dq_76 dq_42 dq_77 (Nat.le_of_ble_eq_true rfl) (Nat.le_of_ble_eq_true rfl) (Nat.le_refl _) (Nat.le_refl _) ?_
    refine dp_blk okX2_around 1 (S' := (35, [some (.inr (some 1)), some (.inl v1), some (.inl v2), some (.inl v3), some (.inl x.1), some (.inl v5), some (.inl x.2)], [.inl v3, .inl (if (0 : Int32) ≤ (v5 - v2) then (v5 - v2) else (0 : Int32) - (v5 - v2))], (hX s))) rfl ?_
    refine dp_if okX2_around rfl (fun (c : v3 < (if (0 : Int32) ≤ (v5 - v2) then (v5 - v2) else (0 : Int32) - (v5 - v2))) => ?_) (fun (c : ¬ v3 < (if (0 : Int32) ≤ (v5 - v2) then (v5 - v2) else (0 : Int32) - (v5 - v2))) => ?_)
    · have h := dp_ip c h
      refine dp_blk okX2_around 0 (S' := (66, [some (.inr (some 1)), some (.inl v1), some (.inl v2), some (.inl v3), some (.inl x.1), some (.inl v5), some (.inl x.2)], [], (hX s))) rfl ?_
      exact wj_X2_around_66 s v1 v2 v3 x.1 v5 x.2 _ h hk
    · have h := dp_ic c h
      refine dp_blk okX2_around 3 (S' := (42, [some (.inr (some 1)), some (.inl v1), some (.inl v2), some (.inl v3), some (.inl x.1), some (.inl v5), some (.inl x.2)], [.inl (x.2 - v1)], (hX s))) rfl ?_
      refine dp_mabs okX2_around rfl dq_75 dq_76 dq_42 dq_77 (Nat.le_of_ble_eq_true rfl) (Nat.le_of_ble_eq_true rfl) (Nat.le_refl _) (Nat.le_refl _) ?_
      refine dp_blk okX2_around 1 (S' := (46, [some (.inr (some 1)), some (.inl v1), some (.inl v2), some (.inl v3), some (.inl x.1), some (.inl v5), some (.inl x.2)], [.inl v3, .inl (if (0 : Int32) ≤ (x.2 - v1) then (x.2 - v1) else (0 : Int32) - (x.2 - v1))], (hX s))) rfl ?_
      refine dp_if okX2_around rfl (fun (c : v3 < (if (0 : Int32) ≤ (x.2 - v1) then (x.2 - v1) else (0 : Int32) - (x.2 - v1))) => ?_) (fun (c : ¬ v3 < (if (0 : Int32) ≤ (x.2 - v1) then (x.2 - v1) else (0 : Int32) - (x.2 - v1))) => ?_)
      · have h := dp_ip c h
        refine dp_blk okX2_around 0 (S' := (66, [some (.inr (some 1)), some (.inl v1), some (.inl v2), some (.inl v3), some (.inl x.1), some (.inl v5), some (.inl x.2)], [], (hX s))) rfl ?_
        exact wj_X2_around_66 s v1 v2 v3 x.1 v5 x.2 _ h hk
      · have h := dp_ic c h
        refine dp_blk okX2_around 11 (S' := (66, [some (.inr (some 1)), some (.inl v1), some (.inl v2), some (.inl v3), some (.inl (x.1 ||| ((1 : Int32) <<< ((((s.1 1) * v5) + x.2) &&& 31)))), some (.inl v5), some (.inl x.2)], [], (hX s))) rfl ?_
        exact wj_X2_around_66 s v1 v2 v3 (x.1 ||| ((1 : Int32) <<< ((((s.1 1) * v5) + x.2) &&& 31))) v5 x.2 _ h hk
def jb_X2_around_6 (s : dp_Z) (v1 v2 v3 : Int32) (x : (Int32 × Int32)) : Option ((Int32 × Int32) ⊕ Int32) := (if (s.1 2) ≤ x.2 then (some (.inr x.1)) else (dp_bd (dp_loop (jb_X2_around_18 s v1 v2 v3 x.2) dp_F (x.1, (0 : Int32))) fun x1 => (some (.inl (x1, (x.2 + (1 : Int32)))))))
set_option maxHeartbeats 1000000 in
set_option maxRecDepth 20000 in
theorem wl_X2_around_6 {post : Option dp_V → dp_H → Prop} {h0 : dp_H} (s : dp_Z) (v1 v2 v3 : Int32) (x : (Int32 × Int32)) (o : ((Int32 × Int32) ⊕ Int32)) (h : jb_X2_around_6 s v1 v2 v3 x = some o) (hk : dp_LK (fun x : (Int32 × Int32) => dp_W 1 mX2_around false h0 0 0 post 0 0 (6, [some (.inr (some 1)), some (.inl v1), some (.inl v2), some (.inl v3), some (.inl x.1), some (.inl x.2), none], [], (hX s))) (fun x : Int32 => dp_W 1 mX2_around false h0 0 0 post 0 0 (78, [some (.inr (some 1)), some (.inl v1), some (.inl v2), none, some (.inl x), none, none], [], (hX s))) o) : dp_W 1 mX2_around false h0 0 0 post 0 0 (6, [some (.inr (some 1)), some (.inl v1), some (.inl v2), some (.inl v3), some (.inl x.1), some (.inl x.2), none], [], (hX s)) := by
  unfold jb_X2_around_6 at h
  refine dp_blk okX2_around 3 (S' := (12, [some (.inr (some 1)), some (.inl v1), some (.inl v2), some (.inl v3), some (.inl x.1), some (.inl x.2), none], [.inl (s.1 2), .inl x.2], (hX s))) rfl ?_
  refine dp_if okX2_around rfl (fun (c : (s.1 2) ≤ x.2) => ?_) (fun (c : ¬ (s.1 2) ≤ x.2) => ?_)
  · have h := dp_ip c h
    refine dp_blk okX2_around 0 (S' := (78, [some (.inr (some 1)), some (.inl v1), some (.inl v2), some (.inl v3), some (.inl x.1), some (.inl x.2), none], [], (hX s))) rfl ?_
    cases h
    refine dp_fg [true, true, true, false, true, false, false] (L' := [some (.inr (some 1)), some (.inl v1), some (.inl v2), none, some (.inl x.1), none, none]) rfl rfl ?_
    exact hk
  · have h := dp_ic c h
    refine dp_blk okX2_around 2 (S' := (18, [some (.inr (some 1)), some (.inl v1), some (.inl v2), some (.inl v3), some (.inl x.1), some (.inl x.2), some (.inl (0 : Int32))], [], (hX s))) rfl ?_
    obtain ⟨x1, hl, h⟩ := dp_bd_inv h
    refine dp_loopW (wl_X2_around_18 s v1 v2 v3 x.2) dp_F (x.1, (0 : Int32)) x1 hl ?_
    show dp_W 1 mX2_around false h0 0 0 post 0 0 (72, [some (.inr (some 1)), some (.inl v1), some (.inl v2), some (.inl v3), some (.inl x1), some (.inl x.2), none], [], (hX s))
    refine dp_blk okX2_around 2 (S' := (6, [some (.inr (some 1)), some (.inl v1), some (.inl v2), some (.inl v3), some (.inl x1), some (.inl (x.2 + (1 : Int32))), none], [], (hX s))) rfl ?_
    cases h
    exact hk
def j_X2_around (s : dp_Z) (v1 v2 v3 : Int32) : Option Int32 := (dp_bd (dp_loop (jb_X2_around_6 s v1 v2 v3) dp_F ((0 : Int32), (0 : Int32))) fun x2 => (some (x2 &&& (((1 : Int32) <<< ((((s.1 1) * v2) + v1) &&& 31)) ^^^ (-1 : Int32)))))
set_option maxHeartbeats 1000000 in
set_option maxRecDepth 20000 in
theorem we_X2_around {post : Option dp_V → dp_H → Prop} {h0 : dp_H} (s : dp_Z) (v1 v2 v3 : Int32) (o : Int32) (h : j_X2_around s v1 v2 v3 = some o) (hk : post (some (.inl o)) (hX s)) : dp_W 1 mX2_around false h0 0 0 post 0 0 (0, [some (.inr (some 1)), some (.inl v1), some (.inl v2), some (.inl v3), none, none, none], [], (hX s)) := by
  unfold j_X2_around at h
  refine dp_blk okX2_around 4 (S' := (6, [some (.inr (some 1)), some (.inl v1), some (.inl v2), some (.inl v3), some (.inl (0 : Int32)), some (.inl (0 : Int32)), none], [], (hX s))) rfl ?_
  obtain ⟨x2, hl, h⟩ := dp_bd_inv h
  refine dp_loopW (wl_X2_around_6 s v1 v2 v3) dp_F ((0 : Int32), (0 : Int32)) x2 hl ?_
  show dp_W 1 mX2_around false h0 0 0 post 0 0 (78, [some (.inr (some 1)), some (.inl v1), some (.inl v2), none, some (.inl x2), none, none], [], (hX s))
  refine dp_blk okX2_around 12 (S' := (93, [some (.inr (some 1)), some (.inl v1), some (.inl v2), none, some (.inl x2), none, none], [.inl (x2 &&& (((1 : Int32) <<< ((((s.1 1) * v2) + v1) &&& 31)) ^^^ (-1 : Int32)))], (hX s))) rfl ?_
  cases h
  exact dp_iret okX2_around rfl rfl hk
theorem c_X2_around (s : dp_Z) (v1 v2 v3 : Int32) (o : Int32) (h : j_X2_around s v1 v2 v3 = some o) : dp_C 1 mX2_around false [.inr (some 1), .inl v1, .inl v2, .inl v3] (hX s) 0 0 (dp_R (some (.inl o)) (hX s)) := dp_C_of okX2_around [some (.inr (some 1)), some (.inl v1), some (.inl v2), some (.inl v3), none, none, none] rfl (Nat.le_of_ble_eq_true rfl) (we_X2_around s v1 v2 v3 o h ⟨rfl, rfl⟩)
def jb_X2_lay_51 (v1 v2 v3 v4 : Int32) (x : (dp_Z × Int32)) : Option ((dp_Z × Int32) ⊕ dp_Z) := (if v1 ≤ x.2 then (some (.inr x.1)) else (dp_bd (j_X2_around x.1 x.2 v4 v3) fun x7 => (if dp_inb ((v1 * v4) + x.2) 12 = true then (dp_bd (some (dp_sr x.1 0 (upd (x.1.2 0) (((v1 * v4) + x.2)).toNatClampNeg x7))) fun s8 => (some (.inl (s8, (x.2 + (1 : Int32)))))) else none)))
set_option maxHeartbeats 1000000 in
set_option maxRecDepth 20000 in
theorem wl_X2_lay_51 {post : Option dp_V → dp_H → Prop} {h0 : dp_H} (v1 v2 v3 v4 : Int32) (x : (dp_Z × Int32)) (o : ((dp_Z × Int32) ⊕ dp_Z)) (h : jb_X2_lay_51 v1 v2 v3 v4 x = some o) (hk : dp_LK (fun x : (dp_Z × Int32) => dp_W 2 mX2_lay false h0 0 0 post 0 0 (51, [some (.inr (some 1)), some (.inl v1), some (.inl v2), some (.inl v3), some (.inl v4), some (.inl x.2)], [], (hX x.1))) (fun x : dp_Z => dp_W 2 mX2_lay false h0 0 0 post 0 0 (84, [some (.inr (some 1)), some (.inl v1), some (.inl v2), some (.inl v3), some (.inl v4), none], [], (hX x))) o) : dp_W 2 mX2_lay false h0 0 0 post 0 0 (51, [some (.inr (some 1)), some (.inl v1), some (.inl v2), some (.inl v3), some (.inl v4), some (.inl x.2)], [], (hX x.1)) := by
  unfold jb_X2_lay_51 at h
  refine dp_blk okX2_lay 2 (S' := (54, [some (.inr (some 1)), some (.inl v1), some (.inl v2), some (.inl v3), some (.inl v4), some (.inl x.2)], [.inl v1, .inl x.2], (hX x.1))) rfl ?_
  refine dp_if okX2_lay rfl (fun (c : v1 ≤ x.2) => ?_) (fun (c : ¬ v1 ≤ x.2) => ?_)
  · have h := dp_ip c h
    refine dp_blk okX2_lay 0 (S' := (84, [some (.inr (some 1)), some (.inl v1), some (.inl v2), some (.inl v3), some (.inl v4), some (.inl x.2)], [], (hX x.1))) rfl ?_
    cases h
    refine dp_fg [true, true, true, true, true, false] (L' := [some (.inr (some 1)), some (.inl v1), some (.inl v2), some (.inl v3), some (.inl v4), none]) rfl rfl ?_
    exact hk
  · have h := dp_ic c h
    refine dp_blk okX2_lay 11 (S' := (74, [some (.inr (some 1)), some (.inl v1), some (.inl v2), some (.inl v3), some (.inl v4), some (.inl x.2)], [.inl v3, .inl v4, .inl x.2, .inr (some 1), .inl ((v1 * v4) + x.2), .inr (some 2)], (hX x.1))) rfl ?_
    obtain ⟨x7, hc, h⟩ := dp_bd_inv h
    refine dp_cV okX2_lay okX2_around (as := [.inl x.2, .inl v4, .inl v3]) (r := [.inl ((v1 * v4) + x.2), .inr (some 2)]) rfl lk_NearLiars_Net_47 npX2_around (c_X2_around x.1 x.2 v4 v3 x7 hc) rfl rfl rfl rfl (Nat.le_of_ble_eq_true rfl) (Nat.le_of_ble_eq_true rfl) (Nat.le_refl _) (Nat.le_refl _) ?_
    refine dp_blk okX2_lay 0 (S' := (77, [some (.inr (some 1)), some (.inl v1), some (.inl v2), some (.inl v3), some (.inl v4), some (.inl x.2)], [.inl x7, .inl ((v1 * v4) + x.2), .inr (some 2)], (hX x.1))) rfl ?_
    obtain ⟨hi, h⟩ := dp_ite h
    obtain ⟨s8, hs, h⟩ := dp_bd_inv h
    have hs := Option.some.inj hs
    refine dp_iase (g := (x.1.2 0)) okX2_lay rfl rfl (dp_inb_in hi) ((ahX_0 x.1 _).trans (congrArg hX hs)) ?_
    refine dp_blk okX2_lay 2 (S' := (51, [some (.inr (some 1)), some (.inl v1), some (.inl v2), some (.inl v3), some (.inl v4), some (.inl (x.2 + (1 : Int32)))], [], (hX s8))) rfl ?_
    cases h
    exact hk
def jb_X2_lay_42 (v1 v2 v3 : Int32) (x : (dp_Z × Int32)) : Option ((dp_Z × Int32) ⊕ dp_Z) := (if v2 ≤ x.2 then (some (.inr x.1)) else (dp_bd (dp_loop (jb_X2_lay_51 v1 v2 v3 x.2) dp_F (x.1, (0 : Int32))) fun x9 => (some (.inl (x9, (x.2 + (1 : Int32)))))))
set_option maxHeartbeats 1000000 in
set_option maxRecDepth 20000 in
theorem wl_X2_lay_42 {post : Option dp_V → dp_H → Prop} {h0 : dp_H} (v1 v2 v3 : Int32) (x : (dp_Z × Int32)) (o : ((dp_Z × Int32) ⊕ dp_Z)) (h : jb_X2_lay_42 v1 v2 v3 x = some o) (hk : dp_LK (fun x : (dp_Z × Int32) => dp_W 2 mX2_lay false h0 0 0 post 0 0 (42, [some (.inr (some 1)), some (.inl v1), some (.inl v2), some (.inl v3), some (.inl x.2), none], [], (hX x.1))) (fun x : dp_Z => dp_W 2 mX2_lay false h0 0 0 post 0 0 (90, [none, none, none, none, none, none], [], (hX x))) o) : dp_W 2 mX2_lay false h0 0 0 post 0 0 (42, [some (.inr (some 1)), some (.inl v1), some (.inl v2), some (.inl v3), some (.inl x.2), none], [], (hX x.1)) := by
  unfold jb_X2_lay_42 at h
  refine dp_blk okX2_lay 2 (S' := (45, [some (.inr (some 1)), some (.inl v1), some (.inl v2), some (.inl v3), some (.inl x.2), none], [.inl v2, .inl x.2], (hX x.1))) rfl ?_
  refine dp_if okX2_lay rfl (fun (c : v2 ≤ x.2) => ?_) (fun (c : ¬ v2 ≤ x.2) => ?_)
  · have h := dp_ip c h
    refine dp_blk okX2_lay 0 (S' := (90, [some (.inr (some 1)), some (.inl v1), some (.inl v2), some (.inl v3), some (.inl x.2), none], [], (hX x.1))) rfl ?_
    cases h
    refine dp_fg [false, false, false, false, false, false] (L' := [none, none, none, none, none, none]) rfl rfl ?_
    exact hk
  · have h := dp_ic c h
    refine dp_blk okX2_lay 2 (S' := (51, [some (.inr (some 1)), some (.inl v1), some (.inl v2), some (.inl v3), some (.inl x.2), some (.inl (0 : Int32))], [], (hX x.1))) rfl ?_
    obtain ⟨x9, hl, h⟩ := dp_bd_inv h
    refine dp_loopW (wl_X2_lay_51 v1 v2 v3 x.2) dp_F (x.1, (0 : Int32)) x9 hl ?_
    show dp_W 2 mX2_lay false h0 0 0 post 0 0 (84, [some (.inr (some 1)), some (.inl v1), some (.inl v2), some (.inl v3), some (.inl x.2), none], [], (hX x9))
    refine dp_blk okX2_lay 2 (S' := (42, [some (.inr (some 1)), some (.inl v1), some (.inl v2), some (.inl v3), some (.inl (x.2 + (1 : Int32))), none], [], (hX x9))) rfl ?_
    cases h
    exact hk
def j_X2_lay (s : dp_Z) (v1 v2 v3 : Int32) : Option dp_Z := (dp_bd (some (dp_sf s 1 v1)) fun s1 => (dp_bd (some (dp_sf s1 2 v2)) fun s2 => (dp_bd (some (dp_sf s2 0 (v1 * v2))) fun s3 => (dp_bd (some (dp_sf s3 3 (0 : Int32))) fun s4 => (dp_bd (j_J7_fill_53178_q3 s4 (-9 : Int32)) fun x5 => (dp_bd (j_J7_fill_53178_q2 x5 (0 : Int32)) fun x6 => (dp_bd (dp_loop (jb_X2_lay_42 v1 v2 v3) dp_F (x6, (0 : Int32))) fun x10 => (some x10))))))))
set_option maxHeartbeats 1000000 in
set_option maxRecDepth 20000 in
theorem we_X2_lay {post : Option dp_V → dp_H → Prop} {h0 : dp_H} (s : dp_Z) (v1 v2 v3 : Int32) (o : dp_Z) (h : j_X2_lay s v1 v2 v3 = some o) (hk : post none (hX o)) : dp_W 2 mX2_lay false h0 0 0 post 0 0 (0, [some (.inr (some 1)), some (.inl v1), some (.inl v2), some (.inl v3), none, none], [], (hX s)) := by
  unfold j_X2_lay at h
  refine dp_blk okX2_lay 2 (S' := (2, [some (.inr (some 1)), some (.inl v1), some (.inl v2), some (.inl v3), none, none], [.inl v1, .inr (some 1)], (hX s))) rfl ?_
  obtain ⟨s1, hs, h⟩ := dp_bd_inv h
  have hs := Option.some.inj hs
  refine dp_pfe okX2_lay rfl (by decide) (qhX_1 s) (Nat.le_of_ble_eq_true rfl) ((phX_1 s v1).trans (congrArg hX hs)) ?_
  refine dp_blk okX2_lay 2 (S' := (7, [some (.inr (some 1)), some (.inl v1), some (.inl v2), some (.inl v3), none, none], [.inl v2, .inr (some 1)], (hX s1))) rfl ?_
  obtain ⟨s2, hs, h⟩ := dp_bd_inv h
  have hs := Option.some.inj hs
  refine dp_pfe okX2_lay rfl (by decide) (qhX_1 s1) (Nat.le_of_ble_eq_true rfl) ((phX_2 s1 v2).trans (congrArg hX hs)) ?_
  refine dp_blk okX2_lay 4 (S' := (14, [some (.inr (some 1)), some (.inl v1), some (.inl v2), some (.inl v3), none, none], [.inl (v1 * v2), .inr (some 1)], (hX s2))) rfl ?_
  obtain ⟨s3, hs, h⟩ := dp_bd_inv h
  have hs := Option.some.inj hs
  refine dp_pfe okX2_lay rfl (by decide) (qhX_1 s2) (Nat.le_of_ble_eq_true rfl) ((phX_0 s2 (v1 * v2)).trans (congrArg hX hs)) ?_
  refine dp_blk okX2_lay 2 (S' := (19, [some (.inr (some 1)), some (.inl v1), some (.inl v2), some (.inl v3), none, none], [.inl (0 : Int32), .inr (some 1)], (hX s3))) rfl ?_
  obtain ⟨s4, hs, h⟩ := dp_bd_inv h
  have hs := Option.some.inj hs
  refine dp_pfe okX2_lay rfl (by decide) (qhX_1 s3) (Nat.le_of_ble_eq_true rfl) ((phX_3 s3 (0 : Int32)).trans (congrArg hX hs)) ?_
  refine dp_blk okX2_lay 3 (S' := (28, [some (.inr (some 1)), some (.inl v1), some (.inl v2), some (.inl v3), none, none], [.inl (-9 : Int32), .inr (some 3)], (hX s4))) rfl ?_
  obtain ⟨x5, hc, h⟩ := dp_bd_inv h
  refine dp_cS okX2_lay okJ7_fill_53178 (as := [.inr (some 3), .inl (-9 : Int32)]) (r := []) rfl lk_NearLiars_Net_41 npJ7_fill_53178 (c_J7_fill_53178_q3 s4 (-9 : Int32) x5 hc) rfl (Nat.le_of_ble_eq_true rfl) (Nat.le_of_ble_eq_true rfl) (Nat.le_refl _) (Nat.le_refl _) ?_
  refine dp_blk okX2_lay 3 (S' := (36, [some (.inr (some 1)), some (.inl v1), some (.inl v2), some (.inl v3), none, none], [.inl (0 : Int32), .inr (some 2)], (hX x5))) rfl ?_
  obtain ⟨x6, hc, h⟩ := dp_bd_inv h
  refine dp_cS okX2_lay okJ7_fill_53178 (as := [.inr (some 2), .inl (0 : Int32)]) (r := []) rfl lk_NearLiars_Net_41 npJ7_fill_53178 (c_J7_fill_53178_q2 x5 (0 : Int32) x6 hc) rfl (Nat.le_of_ble_eq_true rfl) (Nat.le_of_ble_eq_true rfl) (Nat.le_refl _) (Nat.le_refl _) ?_
  refine dp_blk okX2_lay 2 (S' := (42, [some (.inr (some 1)), some (.inl v1), some (.inl v2), some (.inl v3), some (.inl (0 : Int32)), none], [], (hX x6))) rfl ?_
  obtain ⟨x10, hl, h⟩ := dp_bd_inv h
  refine dp_loopW (wl_X2_lay_42 v1 v2 v3) dp_F (x6, (0 : Int32)) x10 hl ?_
  show dp_W 2 mX2_lay false h0 0 0 post 0 0 (90, [none, none, none, none, none, none], [], (hX x10))
  refine dp_blk okX2_lay 0 (S' := (90, [none, none, none, none, none, none], [], (hX x10))) rfl ?_
  cases h
  exact dp_vret okX2_lay rfl rfl hk
theorem c_X2_lay (s : dp_Z) (v1 v2 v3 : Int32) (o : dp_Z) (h : j_X2_lay s v1 v2 v3 = some o) : dp_C 2 mX2_lay false [.inr (some 1), .inl v1, .inl v2, .inl v3] (hX s) 0 0 (dp_R none (hX o)) := dp_C_of okX2_lay [some (.inr (some 1)), some (.inl v1), some (.inl v2), some (.inl v3), none, none] rfl (Nat.le_of_ble_eq_true rfl) (we_X2_lay s v1 v2 v3 o h ⟨rfl, rfl⟩)
def j_X2_has (s : dp_Z) (v1 : Int32) : Option Int32 := (if v1 < (0 : Int32) then (some (0 : Int32)) else (if (s.1 0) ≤ v1 then (some (0 : Int32)) else (some (1 : Int32))))
set_option maxHeartbeats 1000000 in
set_option maxRecDepth 20000 in
theorem we_X2_has {post : Option dp_V → dp_H → Prop} {h0 : dp_H} (s : dp_Z) (v1 : Int32) (o : Int32) (h : j_X2_has s v1 = some o) (hk : post (some (.inl o)) (hX s)) : dp_W 0 mX2_has false h0 0 0 post 0 0 (0, [some (.inr (some 1)), some (.inl v1)], [], (hX s)) := by
  unfold j_X2_has at h
  refine dp_blk okX2_has 1 (S' := (1, [some (.inr (some 1)), some (.inl v1)], [.inl v1], (hX s))) rfl ?_
  refine dp_if0 okX2_has rfl (fun (c : v1 < (0 : Int32)) => ?_) (fun (c : ¬ v1 < (0 : Int32)) => ?_)
  · have h := dp_ip c h
    refine dp_blk okX2_has 1 (S' := (17, [some (.inr (some 1)), some (.inl v1)], [.inl (0 : Int32)], (hX s))) rfl ?_
    cases h
    exact dp_zret okX2_has rfl rfl (by decide) hk
  · have h := dp_ic c h
    refine dp_blk okX2_has 3 (S' := (9, [some (.inr (some 1)), some (.inl v1)], [.inl (s.1 0), .inl v1], (hX s))) rfl ?_
    refine dp_if okX2_has rfl (fun (c : (s.1 0) ≤ v1) => ?_) (fun (c : ¬ (s.1 0) ≤ v1) => ?_)
    · have h := dp_ip c h
      refine dp_blk okX2_has 1 (S' := (17, [some (.inr (some 1)), some (.inl v1)], [.inl (0 : Int32)], (hX s))) rfl ?_
      cases h
      exact dp_zret okX2_has rfl rfl (by decide) hk
    · have h := dp_ic c h
      refine dp_blk okX2_has 2 (S' := (17, [some (.inr (some 1)), some (.inl v1)], [.inl (1 : Int32)], (hX s))) rfl ?_
      cases h
      exact dp_zret okX2_has rfl rfl (by decide) hk
theorem c_X2_has (s : dp_Z) (v1 : Int32) (o : Int32) (h : j_X2_has s v1 = some o) : dp_C 0 mX2_has false [.inr (some 1), .inl v1] (hX s) 0 0 (dp_R (some (.inl o)) (hX s)) := dp_C_of okX2_has [some (.inr (some 1)), some (.inl v1)] rfl (Nat.le_of_ble_eq_true rfl) (we_X2_has s v1 o h ⟨rfl, rfl⟩)
def j_X5_isIn (v0 v1 : Int32) : Option Int32 := (if ((v1 >>> (v0 &&& 31)) &&& (1 : Int32)) = (1 : Int32) then (some (1 : Int32)) else (some (0 : Int32)))
set_option maxHeartbeats 1000000 in
set_option maxRecDepth 20000 in
theorem we_X5_isIn {post : Option dp_V → dp_H → Prop} {h0 : dp_H} (hh : dp_H) (v0 v1 : Int32) (o : Int32) (h : j_X5_isIn v0 v1 = some o) (hk : post (some (.inl o)) hh) : dp_W 0 mX5_isIn false h0 0 0 post 0 0 (0, [some (.inl v0), some (.inl v1)], [], hh) := by
  unfold j_X5_isIn at h
  refine dp_blk okX5_isIn 6 (S' := (6, [some (.inl v0), some (.inl v1)], [.inl (1 : Int32), .inl ((v1 >>> (v0 &&& 31)) &&& (1 : Int32))], hh)) rfl ?_
  refine dp_if okX5_isIn rfl (fun (c : ¬ ((v1 >>> (v0 &&& 31)) &&& (1 : Int32)) = (1 : Int32)) => ?_) (fun (c : ((v1 >>> (v0 &&& 31)) &&& (1 : Int32)) = (1 : Int32)) => ?_)
  · have h := dp_ic c h
    refine dp_blk okX5_isIn 1 (S' := (14, [some (.inl v0), some (.inl v1)], [.inl (0 : Int32)], hh)) rfl ?_
    cases h
    exact dp_zret okX5_isIn rfl rfl (by decide) hk
  · have h := dp_ip c h
    refine dp_blk okX5_isIn 2 (S' := (14, [some (.inl v0), some (.inl v1)], [.inl (1 : Int32)], hh)) rfl ?_
    cases h
    exact dp_zret okX5_isIn rfl rfl (by decide) hk
theorem c_X5_isIn (hh : dp_H) (v0 v1 : Int32) (o : Int32) (h : j_X5_isIn v0 v1 = some o) : dp_C 0 mX5_isIn false [.inl v0, .inl v1] hh 0 0 (dp_R (some (.inl o)) hh) := dp_C_of okX5_isIn [some (.inl v0), some (.inl v1)] rfl (Nat.le_of_ble_eq_true rfl) (we_X5_isIn hh v0 v1 o h ⟨rfl, rfl⟩)
def j_X2_areLinked (s : dp_Z) (v1 v2 : Int32) : Option Int32 := (if dp_inb v1 12 = true then (dp_bd (j_X5_isIn v2 ((s.2 0) (v1).toNatClampNeg)) fun x1 => (if x1 &&& 1 = x1 then (some x1) else none)) else none)
set_option maxHeartbeats 1000000 in
set_option maxRecDepth 20000 in
theorem we_X2_areLinked {post : Option dp_V → dp_H → Prop} {h0 : dp_H} (s : dp_Z) (v1 v2 : Int32) (o : Int32) (h : j_X2_areLinked s v1 v2 = some o) (hk : post (some (.inl o)) (hX s)) : dp_W 1 mX2_areLinked false h0 0 0 post 0 0 (0, [some (.inr (some 1)), some (.inl v1), some (.inl v2)], [], (hX s)) := by
  unfold j_X2_areLinked at h
  refine dp_blk okX2_areLinked 4 (S' := (6, [some (.inr (some 1)), some (.inl v1), some (.inl v2)], [.inl v1, .inr (some 2), .inl v2], (hX s))) rfl ?_
  obtain ⟨hi, h⟩ := dp_ite h
  refine dp_ial (g := (s.2 0)) okX2_areLinked rfl rfl (dp_inb_in hi) ?_
  refine dp_blk okX2_areLinked 0 (S' := (7, [some (.inr (some 1)), some (.inl v1), some (.inl v2)], [.inl ((s.2 0) (v1).toNatClampNeg), .inl v2], (hX s))) rfl ?_
  obtain ⟨x1, hc, h⟩ := dp_bd_inv h
  refine dp_cSN okX2_areLinked okX5_isIn (as := [.inl v2, .inl ((s.2 0) (v1).toNatClampNeg)]) (r := []) rfl lk_NearLiars_Net_57 npX5_isIn (c_X5_isIn (hX s) v2 ((s.2 0) (v1).toNatClampNeg) x1 hc) rfl (Nat.le_of_ble_eq_true rfl) (Nat.le_of_ble_eq_true rfl) (Nat.le_refl _) (Nat.le_refl _) ?_
  refine dp_blk okX2_areLinked 0 (S' := (10, [some (.inr (some 1)), some (.inl v1), some (.inl v2)], [.inl x1], (hX s))) rfl ?_
  obtain ⟨hz, h⟩ := dp_ite h
  cases h
  exact dp_zret okX2_areLinked rfl rfl hz hk
theorem c_X2_areLinked (s : dp_Z) (v1 v2 : Int32) (o : Int32) (h : j_X2_areLinked s v1 v2 = some o) : dp_C 1 mX2_areLinked false [.inr (some 1), .inl v1, .inl v2] (hX s) 0 0 (dp_R (some (.inl o)) (hX s)) := dp_C_of okX2_areLinked [some (.inr (some 1)), some (.inl v1), some (.inl v2)] rfl (Nat.le_of_ble_eq_true rfl) (we_X2_areLinked s v1 v2 o h ⟨rfl, rfl⟩)
def jj_X2_link_34 (s : dp_Z) (v1 v2 v3 t0 t1 : Int32) : Option dp_Z := (if dp_inb t1 12 = true then (dp_bd (some (dp_sr s 0 (upd (s.2 0) (t1).toNatClampNeg t0))) fun s1 => (if v3 = (0 : Int32) then (if dp_inb v2 12 = true then (if dp_inb v2 12 = true then (dp_bd (some (dp_sr s1 0 (upd (s1.2 0) (v2).toNatClampNeg (((s1.2 0) (v2).toNatClampNeg) &&& (((1 : Int32) <<< (v1 &&& 31)) ^^^ (-1 : Int32)))))) fun s2 => (some s2)) else none) else none) else (if dp_inb v2 12 = true then (if dp_inb v2 12 = true then (dp_bd (some (dp_sr s1 0 (upd (s1.2 0) (v2).toNatClampNeg (((s1.2 0) (v2).toNatClampNeg) ||| ((1 : Int32) <<< (v1 &&& 31)))))) fun s3 => (some s3)) else none) else none))) else none)
set_option maxHeartbeats 1000000 in
set_option maxRecDepth 20000 in
theorem wj_X2_link_34 {post : Option dp_V → dp_H → Prop} {h0 : dp_H} (s : dp_Z) (v1 v2 v3 t0 t1 : Int32) (o : dp_Z) (h : jj_X2_link_34 s v1 v2 v3 t0 t1 = some o) (hk : post none (hX o)) : dp_W 0 mX2_link false h0 0 0 post 0 0 (34, [some (.inr (some 1)), some (.inl v1), some (.inl v2), some (.inl v3)], [.inl t0, .inl t1, .inr (some 2)], (hX s)) := by
  unfold jj_X2_link_34 at h
  obtain ⟨hi, h⟩ := dp_ite h
  obtain ⟨s1, hs, h⟩ := dp_bd_inv h
  have hs := Option.some.inj hs
  refine dp_iase (g := (s.2 0)) okX2_link rfl rfl (dp_inb_in hi) ((ahX_0 s _).trans (congrArg hX hs)) ?_
  refine dp_blk okX2_link 4 (S' := (41, [some (.inr (some 1)), some (.inl v1), some (.inl v2), some (.inl v3)], [.inl v3, .inl v2, .inr (some 2)], (hX s1))) rfl ?_
  refine dp_if0 okX2_link rfl (fun (c : v3 = (0 : Int32)) => ?_) (fun (c : ¬ v3 = (0 : Int32)) => ?_)
  · have h := dp_ip c h
    refine dp_blk okX2_link 3 (S' := (62, [some (.inr (some 1)), some (.inl v1), some (.inl v2), some (.inl v3)], [.inl v2, .inr (some 2), .inl v2, .inr (some 2)], (hX s1))) rfl ?_
    obtain ⟨hi, h⟩ := dp_ite h
    refine dp_ial (g := (s1.2 0)) okX2_link rfl rfl (dp_inb_in hi) ?_
    refine dp_blk okX2_link 6 (S' := (69, [some (.inr (some 1)), some (.inl v1), some (.inl v2), some (.inl v3)], [.inl (((s1.2 0) (v2).toNatClampNeg) &&& (((1 : Int32) <<< (v1 &&& 31)) ^^^ (-1 : Int32))), .inl v2, .inr (some 2)], (hX s1))) rfl ?_
    obtain ⟨hi, h⟩ := dp_ite h
    obtain ⟨s2, hs, h⟩ := dp_bd_inv h
    have hs := Option.some.inj hs
    refine dp_iase (g := (s1.2 0)) okX2_link rfl rfl (dp_inb_in hi) ((ahX_0 s1 _).trans (congrArg hX hs)) ?_
    refine dp_blk okX2_link 0 (S' := (70, [some (.inr (some 1)), some (.inl v1), some (.inl v2), some (.inl v3)], [], (hX s2))) rfl ?_
    cases h
    exact dp_vret okX2_link rfl rfl hk
  · have h := dp_ic c h
    refine dp_blk okX2_link 3 (S' := (49, [some (.inr (some 1)), some (.inl v1), some (.inl v2), some (.inl v3)], [.inl v2, .inr (some 2), .inl v2, .inr (some 2)], (hX s1))) rfl ?_
    obtain ⟨hi, h⟩ := dp_ite h
    refine dp_ial (g := (s1.2 0)) okX2_link rfl rfl (dp_inb_in hi) ?_
    refine dp_blk okX2_link 5 (S' := (69, [some (.inr (some 1)), some (.inl v1), some (.inl v2), some (.inl v3)], [.inl (((s1.2 0) (v2).toNatClampNeg) ||| ((1 : Int32) <<< (v1 &&& 31))), .inl v2, .inr (some 2)], (hX s1))) rfl ?_
    obtain ⟨hi, h⟩ := dp_ite h
    obtain ⟨s3, hs, h⟩ := dp_bd_inv h
    have hs := Option.some.inj hs
    refine dp_iase (g := (s1.2 0)) okX2_link rfl rfl (dp_inb_in hi) ((ahX_0 s1 _).trans (congrArg hX hs)) ?_
    refine dp_blk okX2_link 0 (S' := (70, [some (.inr (some 1)), some (.inl v1), some (.inl v2), some (.inl v3)], [], (hX s3))) rfl ?_
    cases h
    exact dp_vret okX2_link rfl rfl hk
def j_X2_link (s : dp_Z) (v1 v2 v3 : Int32) : Option dp_Z := (if v3 = (0 : Int32) then (if dp_inb v1 12 = true then (jj_X2_link_34 s v1 v2 v3 (((s.2 0) (v1).toNatClampNeg) &&& (((1 : Int32) <<< (v2 &&& 31)) ^^^ (-1 : Int32))) v1) else none) else (if dp_inb v1 12 = true then (jj_X2_link_34 s v1 v2 v3 (((s.2 0) (v1).toNatClampNeg) ||| ((1 : Int32) <<< (v2 &&& 31))) v1) else none))
set_option maxHeartbeats 1000000 in
set_option maxRecDepth 20000 in
theorem we_X2_link {post : Option dp_V → dp_H → Prop} {h0 : dp_H} (s : dp_Z) (v1 v2 v3 : Int32) (o : dp_Z) (h : j_X2_link s v1 v2 v3 = some o) (hk : post none (hX o)) : dp_W 0 mX2_link false h0 0 0 post 0 0 (0, [some (.inr (some 1)), some (.inl v1), some (.inl v2), some (.inl v3)], [], (hX s)) := by
  unfold j_X2_link at h
  refine dp_blk okX2_link 4 (S' := (6, [some (.inr (some 1)), some (.inl v1), some (.inl v2), some (.inl v3)], [.inl v3, .inl v1, .inr (some 2)], (hX s))) rfl ?_
  refine dp_if0 okX2_link rfl (fun (c : v3 = (0 : Int32)) => ?_) (fun (c : ¬ v3 = (0 : Int32)) => ?_)
  · have h := dp_ip c h
    refine dp_blk okX2_link 3 (S' := (27, [some (.inr (some 1)), some (.inl v1), some (.inl v2), some (.inl v3)], [.inl v1, .inr (some 2), .inl v1, .inr (some 2)], (hX s))) rfl ?_
    obtain ⟨hi, h⟩ := dp_ite h
    refine dp_ial (g := (s.2 0)) okX2_link rfl rfl (dp_inb_in hi) ?_
    refine dp_blk okX2_link 6 (S' := (34, [some (.inr (some 1)), some (.inl v1), some (.inl v2), some (.inl v3)], [.inl (((s.2 0) (v1).toNatClampNeg) &&& (((1 : Int32) <<< (v2 &&& 31)) ^^^ (-1 : Int32))), .inl v1, .inr (some 2)], (hX s))) rfl ?_
    exact wj_X2_link_34 s v1 v2 v3 (((s.2 0) (v1).toNatClampNeg) &&& (((1 : Int32) <<< (v2 &&& 31)) ^^^ (-1 : Int32))) v1 _ h hk
  · have h := dp_ic c h
    refine dp_blk okX2_link 3 (S' := (14, [some (.inr (some 1)), some (.inl v1), some (.inl v2), some (.inl v3)], [.inl v1, .inr (some 2), .inl v1, .inr (some 2)], (hX s))) rfl ?_
    obtain ⟨hi, h⟩ := dp_ite h
    refine dp_ial (g := (s.2 0)) okX2_link rfl rfl (dp_inb_in hi) ?_
    refine dp_blk okX2_link 5 (S' := (34, [some (.inr (some 1)), some (.inl v1), some (.inl v2), some (.inl v3)], [.inl (((s.2 0) (v1).toNatClampNeg) ||| ((1 : Int32) <<< (v2 &&& 31))), .inl v1, .inr (some 2)], (hX s))) rfl ?_
    exact wj_X2_link_34 s v1 v2 v3 (((s.2 0) (v1).toNatClampNeg) ||| ((1 : Int32) <<< (v2 &&& 31))) v1 _ h hk
theorem c_X2_link (s : dp_Z) (v1 v2 v3 : Int32) (o : dp_Z) (h : j_X2_link s v1 v2 v3 = some o) : dp_C 0 mX2_link false [.inr (some 1), .inl v1, .inl v2, .inl v3] (hX s) 0 0 (dp_R none (hX o)) := dp_C_of okX2_link [some (.inr (some 1)), some (.inl v1), some (.inl v2), some (.inl v3)] rfl (Nat.le_of_ble_eq_true rfl) (we_X2_link s v1 v2 v3 o h ⟨rfl, rfl⟩)
def j_J6_bitCount_0f7a4 (v0 : Int32) : Option Int32 := (dp_bd (some (v0 - (((v0).toUInt32 >>> (((1 : Int32)).toUInt32 &&& Int32.toUInt32 31)).toInt32 &&& (1431655765 : Int32)))) fun y1 => (dp_bd (some ((y1 &&& (858993459 : Int32)) + (((y1).toUInt32 >>> (((2 : Int32)).toUInt32 &&& Int32.toUInt32 31)).toInt32 &&& (858993459 : Int32)))) fun y2 => (dp_bd (some ((y2 + ((y2).toUInt32 >>> (((4 : Int32)).toUInt32 &&& Int32.toUInt32 31)).toInt32) &&& (252645135 : Int32))) fun y3 => (dp_bd (some (y3 + ((y3).toUInt32 >>> (((8 : Int32)).toUInt32 &&& Int32.toUInt32 31)).toInt32)) fun y4 => (dp_bd (some (y4 + ((y4).toUInt32 >>> (((16 : Int32)).toUInt32 &&& Int32.toUInt32 31)).toInt32)) fun y5 => (some (y5 &&& (63 : Int32))))))))
set_option maxHeartbeats 1000000 in
set_option maxRecDepth 20000 in
theorem we_J6_bitCount_0f7a4 {post : Option dp_V → dp_H → Prop} {h0 : dp_H} (hh : dp_H) (v0 : Int32) (o : Int32) (h : j_J6_bitCount_0f7a4 v0 = some o) (hk : post (some (.inl o)) hh) : dp_W 0 mJ6_bitCount_0f7a4 false h0 0 0 post 0 0 (0, [some (.inl v0)], [], hh) := by
  unfold j_J6_bitCount_0f7a4 at h
  obtain ⟨y1, hy, h⟩ := dp_bd_inv h
  have hy := Option.some.inj hy
  refine dp_blk okJ6_bitCount_0f7a4 8 (S' := (10, [some (.inl y1)], [], hh)) (by subst hy; rfl) ?_
  obtain ⟨y2, hy, h⟩ := dp_bd_inv h
  have hy := Option.some.inj hy
  refine dp_blk okJ6_bitCount_0f7a4 10 (S' := (24, [some (.inl y2)], [], hh)) (by subst hy; rfl) ?_
  obtain ⟨y3, hy, h⟩ := dp_bd_inv h
  have hy := Option.some.inj hy
  refine dp_blk okJ6_bitCount_0f7a4 8 (S' := (34, [some (.inl y3)], [], hh)) (by subst hy; rfl) ?_
  obtain ⟨y4, hy, h⟩ := dp_bd_inv h
  have hy := Option.some.inj hy
  refine dp_blk okJ6_bitCount_0f7a4 6 (S' := (41, [some (.inl y4)], [], hh)) (by subst hy; rfl) ?_
  obtain ⟨y5, hy, h⟩ := dp_bd_inv h
  have hy := Option.some.inj hy
  refine dp_blk okJ6_bitCount_0f7a4 6 (S' := (48, [some (.inl y5)], [], hh)) (by subst hy; rfl) ?_
  refine dp_blk okJ6_bitCount_0f7a4 3 (S' := (52, [some (.inl y5)], [.inl (y5 &&& (63 : Int32))], hh)) rfl ?_
  cases h
  exact dp_iret okJ6_bitCount_0f7a4 rfl rfl hk
theorem c_J6_bitCount_0f7a4 (hh : dp_H) (v0 : Int32) (o : Int32) (h : j_J6_bitCount_0f7a4 v0 = some o) : dp_C 0 mJ6_bitCount_0f7a4 false [.inl v0] hh 0 0 (dp_R (some (.inl o)) hh) := dp_C_of okJ6_bitCount_0f7a4 [some (.inl v0)] rfl (Nat.le_of_ble_eq_true rfl) (we_J6_bitCount_0f7a4 hh v0 o h ⟨rfl, rfl⟩)
def jb_X2_pairs_4 (s : dp_Z) (x : (Int32 × Int32)) : Option ((Int32 × Int32) ⊕ Int32) := (if (s.1 0) ≤ x.2 then (some (.inr x.1)) else (if dp_inb x.2 12 = true then (dp_bd (j_J6_bitCount_0f7a4 ((s.2 0) (x.2).toNatClampNeg)) fun x1 => (some (.inl ((x.1 + x1), (x.2 + (1 : Int32)))))) else none))
set_option maxHeartbeats 1000000 in
set_option maxRecDepth 20000 in
theorem wl_X2_pairs_4 {post : Option dp_V → dp_H → Prop} {h0 : dp_H} (s : dp_Z) (x : (Int32 × Int32)) (o : ((Int32 × Int32) ⊕ Int32)) (h : jb_X2_pairs_4 s x = some o) (hk : dp_LK (fun x : (Int32 × Int32) => dp_W 1 mX2_pairs false h0 0 0 post 0 0 (4, [some (.inr (some 1)), some (.inl x.1), some (.inl x.2)], [], (hX s))) (fun x : Int32 => dp_W 1 mX2_pairs false h0 0 0 post 0 0 (30, [none, some (.inl x), none], [], (hX s))) o) : dp_W 1 mX2_pairs false h0 0 0 post 0 0 (4, [some (.inr (some 1)), some (.inl x.1), some (.inl x.2)], [], (hX s)) := by
  unfold jb_X2_pairs_4 at h
  refine dp_blk okX2_pairs 3 (S' := (9, [some (.inr (some 1)), some (.inl x.1), some (.inl x.2)], [.inl (s.1 0), .inl x.2], (hX s))) rfl ?_
  refine dp_if okX2_pairs rfl (fun (c : (s.1 0) ≤ x.2) => ?_) (fun (c : ¬ (s.1 0) ≤ x.2) => ?_)
  · have h := dp_ip c h
    refine dp_blk okX2_pairs 0 (S' := (30, [some (.inr (some 1)), some (.inl x.1), some (.inl x.2)], [], (hX s))) rfl ?_
    cases h
    refine dp_fg [false, true, false] (L' := [none, some (.inl x.1), none]) rfl rfl ?_
    exact hk
  · have h := dp_ic c h
    refine dp_blk okX2_pairs 4 (S' := (18, [some (.inr (some 1)), some (.inl x.1), some (.inl x.2)], [.inl x.2, .inr (some 2), .inl x.1], (hX s))) rfl ?_
    obtain ⟨hi, h⟩ := dp_ite h
    refine dp_ial (g := (s.2 0)) okX2_pairs rfl rfl (dp_inb_in hi) ?_
    refine dp_blk okX2_pairs 0 (S' := (19, [some (.inr (some 1)), some (.inl x.1), some (.inl x.2)], [.inl ((s.2 0) (x.2).toNatClampNeg), .inl x.1], (hX s))) rfl ?_
    obtain ⟨x1, hc, h⟩ := dp_bd_inv h
    refine dp_cS okX2_pairs okJ6_bitCount_0f7a4 (as := [.inl ((s.2 0) (x.2).toNatClampNeg)]) (r := [.inl x.1]) rfl lk_NearLiars_Net_61 npJ6_bitCount_0f7a4 (c_J6_bitCount_0f7a4 (hX s) ((s.2 0) (x.2).toNatClampNeg) x1 hc) rfl (Nat.le_of_ble_eq_true rfl) (Nat.le_of_ble_eq_true rfl) (Nat.le_refl _) (Nat.le_refl _) ?_
    refine dp_blk okX2_pairs 4 (S' := (4, [some (.inr (some 1)), some (.inl (x.1 + x1)), some (.inl (x.2 + (1 : Int32)))], [], (hX s))) rfl ?_
    cases h
    exact hk
def j_X2_pairs (s : dp_Z) : Option Int32 := (dp_bd (dp_loop (jb_X2_pairs_4 s) dp_F ((0 : Int32), (0 : Int32))) fun x2 => (some (x2 / (2 : Int32))))
set_option maxHeartbeats 1000000 in
set_option maxRecDepth 20000 in
theorem we_X2_pairs {post : Option dp_V → dp_H → Prop} {h0 : dp_H} (s : dp_Z) (o : Int32) (h : j_X2_pairs s = some o) (hk : post (some (.inl o)) (hX s)) : dp_W 1 mX2_pairs false h0 0 0 post 0 0 (0, [some (.inr (some 1)), none, none], [], (hX s)) := by
  unfold j_X2_pairs at h
  refine dp_blk okX2_pairs 4 (S' := (4, [some (.inr (some 1)), some (.inl (0 : Int32)), some (.inl (0 : Int32))], [], (hX s))) rfl ?_
  obtain ⟨x2, hl, h⟩ := dp_bd_inv h
  refine dp_loopW (wl_X2_pairs_4 s) dp_F ((0 : Int32), (0 : Int32)) x2 hl ?_
  show dp_W 1 mX2_pairs false h0 0 0 post 0 0 (30, [none, some (.inl x2), none], [], (hX s))
  refine dp_blk okX2_pairs 2 (S' := (32, [none, some (.inl x2), none], [.inl (2 : Int32), .inl x2], (hX s))) rfl ?_
  refine dp_idiv okX2_pairs rfl (by decide) ?_
  refine dp_blk okX2_pairs 0 (S' := (33, [none, some (.inl x2), none], [.inl (x2 / (2 : Int32))], (hX s))) rfl ?_
  cases h
  exact dp_iret okX2_pairs rfl rfl hk
theorem c_X2_pairs (s : dp_Z) (o : Int32) (h : j_X2_pairs s = some o) : dp_C 1 mX2_pairs false [.inr (some 1)] (hX s) 0 0 (dp_R (some (.inl o)) (hX s)) := dp_C_of okX2_pairs [some (.inr (some 1)), none, none] rfl (Nat.le_of_ble_eq_true rfl) (we_X2_pairs s o h ⟨rfl, rfl⟩)
def j_X2_all (s : dp_Z) : Option Int32 := (some (((1 : Int32) <<< ((s.1 0) &&& 31)) - (1 : Int32)))
set_option maxHeartbeats 1000000 in
set_option maxRecDepth 20000 in
theorem we_X2_all {post : Option dp_V → dp_H → Prop} {h0 : dp_H} (s : dp_Z) (o : Int32) (h : j_X2_all s = some o) (hk : post (some (.inl o)) (hX s)) : dp_W 0 mX2_all false h0 0 0 post 0 0 (0, [some (.inr (some 1))], [], (hX s)) := by
  unfold j_X2_all at h
  refine dp_blk okX2_all 6 (S' := (8, [some (.inr (some 1))], [.inl (((1 : Int32) <<< ((s.1 0) &&& 31)) - (1 : Int32))], (hX s))) rfl ?_
  cases h
  exact dp_iret okX2_all rfl rfl hk
theorem c_X2_all (s : dp_Z) (o : Int32) (h : j_X2_all s = some o) : dp_C 0 mX2_all false [.inr (some 1)] (hX s) 0 0 (dp_R (some (.inl o)) (hX s)) := dp_C_of okX2_all [some (.inr (some 1))] rfl (Nat.le_of_ble_eq_true rfl) (we_X2_all s o h ⟨rfl, rfl⟩)
def j_X2_row (s : dp_Z) (v1 : Int32) : Option Int32 := (some ((((1 : Int32) <<< ((s.1 1) &&& 31)) - (1 : Int32)) <<< (((s.1 1) * v1) &&& 31)))
set_option maxHeartbeats 1000000 in
set_option maxRecDepth 20000 in
theorem we_X2_row {post : Option dp_V → dp_H → Prop} {h0 : dp_H} (s : dp_Z) (v1 : Int32) (o : Int32) (h : j_X2_row s v1 = some o) (hk : post (some (.inl o)) (hX s)) : dp_W 0 mX2_row false h0 0 0 post 0 0 (0, [some (.inr (some 1)), some (.inl v1)], [], (hX s)) := by
  unfold j_X2_row at h
  refine dp_blk okX2_row 11 (S' := (15, [some (.inr (some 1)), some (.inl v1)], [.inl ((((1 : Int32) <<< ((s.1 1) &&& 31)) - (1 : Int32)) <<< (((s.1 1) * v1) &&& 31))], (hX s))) rfl ?_
  cases h
  exact dp_iret okX2_row rfl rfl hk
theorem c_X2_row (s : dp_Z) (v1 : Int32) (o : Int32) (h : j_X2_row s v1 = some o) : dp_C 0 mX2_row false [.inr (some 1), .inl v1] (hX s) 0 0 (dp_R (some (.inl o)) (hX s)) := dp_C_of okX2_row [some (.inr (some 1)), some (.inl v1)] rfl (Nat.le_of_ble_eq_true rfl) (we_X2_row s v1 o h ⟨rfl, rfl⟩)
def jj_X2_liars_29 (s : dp_Z) (v1 v2 : Int32) : Option ((Int32 × Int32) ⊕ Int32) := (some (.inl (v1, (v2 + (1 : Int32)))))
set_option maxHeartbeats 1000000 in
set_option maxRecDepth 20000 in
theorem wj_X2_liars_29 {post : Option dp_V → dp_H → Prop} {h0 : dp_H} (s : dp_Z) (v1 v2 : Int32) (o : ((Int32 × Int32) ⊕ Int32)) (h : jj_X2_liars_29 s v1 v2 = some o) (hk : dp_LK (fun x : (Int32 × Int32) => dp_W 0 mX2_liars false h0 0 0 post 0 0 (4, [some (.inr (some 1)), some (.inl x.1), some (.inl x.2)], [], (hX s))) (fun x : Int32 => dp_W 0 mX2_liars false h0 0 0 post 0 0 (35, [none, some (.inl x), none], [], (hX s))) o) : dp_W 0 mX2_liars false h0 0 0 post 0 0 (29, [some (.inr (some 1)), some (.inl v1), some (.inl v2)], [], (hX s)) := by
  unfold jj_X2_liars_29 at h
  refine dp_blk okX2_liars 2 (S' := (4, [some (.inr (some 1)), some (.inl v1), some (.inl (v2 + (1 : Int32)))], [], (hX s))) rfl ?_
  cases h
  exact hk
def jb_X2_liars_4 (s : dp_Z) (x : (Int32 × Int32)) : Option ((Int32 × Int32) ⊕ Int32) := (if (s.1 0) ≤ x.2 then (some (.inr x.1)) else (if dp_inb x.2 12 = true then (if ((s.2 1) (x.2).toNatClampNeg) = (-9 : Int32) then (jj_X2_liars_29 s x.1 x.2) else (jj_X2_liars_29 s (x.1 ||| ((1 : Int32) <<< (x.2 &&& 31))) x.2)) else none))
set_option maxHeartbeats 1000000 in
set_option maxRecDepth 20000 in
theorem wl_X2_liars_4 {post : Option dp_V → dp_H → Prop} {h0 : dp_H} (s : dp_Z) (x : (Int32 × Int32)) (o : ((Int32 × Int32) ⊕ Int32)) (h : jb_X2_liars_4 s x = some o) (hk : dp_LK (fun x : (Int32 × Int32) => dp_W 0 mX2_liars false h0 0 0 post 0 0 (4, [some (.inr (some 1)), some (.inl x.1), some (.inl x.2)], [], (hX s))) (fun x : Int32 => dp_W 0 mX2_liars false h0 0 0 post 0 0 (35, [none, some (.inl x), none], [], (hX s))) o) : dp_W 0 mX2_liars false h0 0 0 post 0 0 (4, [some (.inr (some 1)), some (.inl x.1), some (.inl x.2)], [], (hX s)) := by
  unfold jb_X2_liars_4 at h
  refine dp_blk okX2_liars 3 (S' := (9, [some (.inr (some 1)), some (.inl x.1), some (.inl x.2)], [.inl (s.1 0), .inl x.2], (hX s))) rfl ?_
  refine dp_if okX2_liars rfl (fun (c : (s.1 0) ≤ x.2) => ?_) (fun (c : ¬ (s.1 0) ≤ x.2) => ?_)
  · have h := dp_ip c h
    refine dp_blk okX2_liars 0 (S' := (35, [some (.inr (some 1)), some (.inl x.1), some (.inl x.2)], [], (hX s))) rfl ?_
    cases h
    refine dp_fg [false, true, false] (L' := [none, some (.inl x.1), none]) rfl rfl ?_
    exact hk
  · have h := dp_ic c h
    refine dp_blk okX2_liars 3 (S' := (17, [some (.inr (some 1)), some (.inl x.1), some (.inl x.2)], [.inl x.2, .inr (some 3)], (hX s))) rfl ?_
    obtain ⟨hi, h⟩ := dp_ite h
    refine dp_ial (g := (s.2 1)) okX2_liars rfl rfl (dp_inb_in hi) ?_
    refine dp_blk okX2_liars 1 (S' := (20, [some (.inr (some 1)), some (.inl x.1), some (.inl x.2)], [.inl (-9 : Int32), .inl ((s.2 1) (x.2).toNatClampNeg)], (hX s))) rfl ?_
    refine dp_if okX2_liars rfl (fun (c : ((s.2 1) (x.2).toNatClampNeg) = (-9 : Int32)) => ?_) (fun (c : ¬ ((s.2 1) (x.2).toNatClampNeg) = (-9 : Int32)) => ?_)
    · have h := dp_ip c h
      refine dp_blk okX2_liars 0 (S' := (29, [some (.inr (some 1)), some (.inl x.1), some (.inl x.2)], [], (hX s))) rfl ?_
      exact wj_X2_liars_29 s x.1 x.2 _ h hk
    · have h := dp_ic c h
      refine dp_blk okX2_liars 6 (S' := (29, [some (.inr (some 1)), some (.inl (x.1 ||| ((1 : Int32) <<< (x.2 &&& 31)))), some (.inl x.2)], [], (hX s))) rfl ?_
      exact wj_X2_liars_29 s (x.1 ||| ((1 : Int32) <<< (x.2 &&& 31))) x.2 _ h hk
def j_X2_liars (s : dp_Z) : Option Int32 := (dp_bd (dp_loop (jb_X2_liars_4 s) dp_F ((0 : Int32), (0 : Int32))) fun x1 => (some x1))
set_option maxHeartbeats 1000000 in
set_option maxRecDepth 20000 in
theorem we_X2_liars {post : Option dp_V → dp_H → Prop} {h0 : dp_H} (s : dp_Z) (o : Int32) (h : j_X2_liars s = some o) (hk : post (some (.inl o)) (hX s)) : dp_W 0 mX2_liars false h0 0 0 post 0 0 (0, [some (.inr (some 1)), none, none], [], (hX s)) := by
  unfold j_X2_liars at h
  refine dp_blk okX2_liars 4 (S' := (4, [some (.inr (some 1)), some (.inl (0 : Int32)), some (.inl (0 : Int32))], [], (hX s))) rfl ?_
  obtain ⟨x1, hl, h⟩ := dp_bd_inv h
  refine dp_loopW (wl_X2_liars_4 s) dp_F ((0 : Int32), (0 : Int32)) x1 hl ?_
  show dp_W 0 mX2_liars false h0 0 0 post 0 0 (35, [none, some (.inl x1), none], [], (hX s))
  refine dp_blk okX2_liars 1 (S' := (36, [none, some (.inl x1), none], [.inl x1], (hX s))) rfl ?_
  cases h
  exact dp_iret okX2_liars rfl rfl hk
theorem c_X2_liars (s : dp_Z) (o : Int32) (h : j_X2_liars s = some o) : dp_C 0 mX2_liars false [.inr (some 1)] (hX s) 0 0 (dp_R (some (.inl o)) (hX s)) := dp_C_of okX2_liars [some (.inr (some 1)), none, none] rfl (Nat.le_of_ble_eq_true rfl) (we_X2_liars s o h ⟨rfl, rfl⟩)
def j_X2_isSet (s : dp_Z) (v1 : Int32) : Option Int32 := (dp_bd (j_X2_all s) fun x1 => (if (v1 &&& (x1 ^^^ (-1 : Int32))) = (0 : Int32) then (dp_bd (j_X5_isIn (s.1 3) v1) fun x2 => (if x2 = (0 : Int32) then (some (1 : Int32)) else (some (0 : Int32)))) else (some (0 : Int32))))
set_option maxHeartbeats 1000000 in
set_option maxRecDepth 20000 in
theorem we_X2_isSet {post : Option dp_V → dp_H → Prop} {h0 : dp_H} (s : dp_Z) (v1 : Int32) (o : Int32) (h : j_X2_isSet s v1 = some o) (hk : post (some (.inl o)) (hX s)) : dp_W 1 mX2_isSet false h0 0 0 post 0 0 (0, [some (.inr (some 1)), some (.inl v1)], [], (hX s)) := by
  unfold j_X2_isSet at h
  refine dp_blk okX2_isSet 2 (S' := (2, [some (.inr (some 1)), some (.inl v1)], [.inr (some 1), .inl v1], (hX s))) rfl ?_
  obtain ⟨x1, hc, h⟩ := dp_bd_inv h
  refine dp_cV okX2_isSet okX2_all (as := []) (r := [.inl v1]) rfl lk_NearLiars_Net_66 npX2_all (c_X2_all s x1 hc) rfl rfl rfl rfl (Nat.le_of_ble_eq_true rfl) (Nat.le_of_ble_eq_true rfl) (Nat.le_refl _) (Nat.le_refl _) ?_
  refine dp_blk okX2_isSet 3 (S' := (8, [some (.inr (some 1)), some (.inl v1)], [.inl (v1 &&& (x1 ^^^ (-1 : Int32)))], (hX s))) rfl ?_
  refine dp_if0 okX2_isSet rfl (fun (c : ¬ (v1 &&& (x1 ^^^ (-1 : Int32))) = (0 : Int32)) => ?_) (fun (c : (v1 &&& (x1 ^^^ (-1 : Int32))) = (0 : Int32)) => ?_)
  · have h := dp_ic c h
    refine dp_blk okX2_isSet 1 (S' := (27, [some (.inr (some 1)), some (.inl v1)], [.inl (0 : Int32)], (hX s))) rfl ?_
    cases h
    exact dp_zret okX2_isSet rfl rfl (by decide) hk
  · have h := dp_ip c h
    refine dp_blk okX2_isSet 3 (S' := (16, [some (.inr (some 1)), some (.inl v1)], [.inl v1, .inl (s.1 3)], (hX s))) rfl ?_
    obtain ⟨x2, hc, h⟩ := dp_bd_inv h
    refine dp_cSN okX2_isSet okX5_isIn (as := [.inl (s.1 3), .inl v1]) (r := []) rfl lk_NearLiars_Net_57 npX5_isIn (c_X5_isIn (hX s) (s.1 3) v1 x2 hc) rfl (Nat.le_of_ble_eq_true rfl) (Nat.le_of_ble_eq_true rfl) (Nat.le_refl _) (Nat.le_refl _) ?_
    refine dp_blk okX2_isSet 0 (S' := (19, [some (.inr (some 1)), some (.inl v1)], [.inl x2], (hX s))) rfl ?_
    refine dp_if0 okX2_isSet rfl (fun (c : ¬ x2 = (0 : Int32)) => ?_) (fun (c : x2 = (0 : Int32)) => ?_)
    · have h := dp_ic c h
      refine dp_blk okX2_isSet 1 (S' := (27, [some (.inr (some 1)), some (.inl v1)], [.inl (0 : Int32)], (hX s))) rfl ?_
      cases h
      exact dp_zret okX2_isSet rfl rfl (by decide) hk
    · have h := dp_ip c h
      refine dp_blk okX2_isSet 2 (S' := (27, [some (.inr (some 1)), some (.inl v1)], [.inl (1 : Int32)], (hX s))) rfl ?_
      cases h
      exact dp_zret okX2_isSet rfl rfl (by decide) hk
theorem c_X2_isSet (s : dp_Z) (v1 : Int32) (o : Int32) (h : j_X2_isSet s v1 = some o) : dp_C 1 mX2_isSet false [.inr (some 1), .inl v1] (hX s) 0 0 (dp_R (some (.inl o)) (hX s)) := dp_C_of okX2_isSet [some (.inr (some 1)), some (.inl v1)] rfl (Nat.le_of_ble_eq_true rfl) (we_X2_isSet s v1 o h ⟨rfl, rfl⟩)
def jj_X2_leastCrowded_35 (s : dp_Z) (v1 v2 v3 : Int32) : Option (Int32 ⊕ (Int32 ⊕ Unit)) := (some (.inl (v3 + (1 : Int32))))
set_option maxHeartbeats 1000000 in
set_option maxRecDepth 20000 in
theorem wj_X2_leastCrowded_35 {post : Option dp_V → dp_H → Prop} {h0 : dp_H} (s : dp_Z) (v1 v2 v3 : Int32) (o : (Int32 ⊕ (Int32 ⊕ Unit))) (h : jj_X2_leastCrowded_35 s v1 v2 v3 = some o) (hk : dp_LK (fun x : Int32 => dp_W 1 mX2_leastCrowded false h0 0 0 post 0 0 (2, [some (.inr (some 1)), some (.inl v1), some (.inl v2), some (.inl x)], [], (hX s))) (dp_LK (fun o : Int32 => post (some (.inl o)) (hX s)) (fun x : Unit => dp_W 1 mX2_leastCrowded false h0 0 0 post 0 0 (41, [none, none, none, none], [], (hX s)))) o) : dp_W 1 mX2_leastCrowded false h0 0 0 post 0 0 (35, [some (.inr (some 1)), some (.inl v1), some (.inl v2), some (.inl v3)], [], (hX s)) := by
  unfold jj_X2_leastCrowded_35 at h
  refine dp_blk okX2_leastCrowded 2 (S' := (2, [some (.inr (some 1)), some (.inl v1), some (.inl v2), some (.inl (v3 + (1 : Int32)))], [], (hX s))) rfl ?_
  cases h
  exact hk
def jb_X2_leastCrowded_2 (s : dp_Z) (v1 v2 : Int32) (x : Int32) : Option (Int32 ⊕ (Int32 ⊕ Unit)) := (if (s.1 0) ≤ x then (some (.inr (.inr ()))) else (dp_bd (j_X5_isIn x v1) fun x1 => (if x1 = (0 : Int32) then (if dp_inb x 12 = true then (dp_bd (j_J6_bitCount_0f7a4 (((s.2 0) (x).toNatClampNeg) &&& v1)) fun x2 => (if x2 < v2 then (jj_X2_leastCrowded_35 s v1 v2 x) else (some (.inr (.inl x))))) else none) else (jj_X2_leastCrowded_35 s v1 v2 x))))
set_option maxHeartbeats 1000000 in
set_option maxRecDepth 20000 in
theorem wl_X2_leastCrowded_2 {post : Option dp_V → dp_H → Prop} {h0 : dp_H} (s : dp_Z) (v1 v2 : Int32) (x : Int32) (o : (Int32 ⊕ (Int32 ⊕ Unit))) (h : jb_X2_leastCrowded_2 s v1 v2 x = some o) (hk : dp_LK (fun x : Int32 => dp_W 1 mX2_leastCrowded false h0 0 0 post 0 0 (2, [some (.inr (some 1)), some (.inl v1), some (.inl v2), some (.inl x)], [], (hX s))) (dp_LK (fun o : Int32 => post (some (.inl o)) (hX s)) (fun x : Unit => dp_W 1 mX2_leastCrowded false h0 0 0 post 0 0 (41, [none, none, none, none], [], (hX s)))) o) : dp_W 1 mX2_leastCrowded false h0 0 0 post 0 0 (2, [some (.inr (some 1)), some (.inl v1), some (.inl v2), some (.inl x)], [], (hX s)) := by
  unfold jb_X2_leastCrowded_2 at h
  refine dp_blk okX2_leastCrowded 3 (S' := (7, [some (.inr (some 1)), some (.inl v1), some (.inl v2), some (.inl x)], [.inl (s.1 0), .inl x], (hX s))) rfl ?_
  refine dp_if okX2_leastCrowded rfl (fun (c : (s.1 0) ≤ x) => ?_) (fun (c : ¬ (s.1 0) ≤ x) => ?_)
  · have h := dp_ip c h
    refine dp_blk okX2_leastCrowded 0 (S' := (41, [some (.inr (some 1)), some (.inl v1), some (.inl v2), some (.inl x)], [], (hX s))) rfl ?_
    cases h
    refine dp_fg [false, false, false, false] (L' := [none, none, none, none]) rfl rfl ?_
    exact hk
  · have h := dp_ic c h
    refine dp_blk okX2_leastCrowded 2 (S' := (12, [some (.inr (some 1)), some (.inl v1), some (.inl v2), some (.inl x)], [.inl v1, .inl x], (hX s))) rfl ?_
    obtain ⟨x1, hc, h⟩ := dp_bd_inv h
    refine dp_cSN okX2_leastCrowded okX5_isIn (as := [.inl x, .inl v1]) (r := []) rfl lk_NearLiars_Net_57 npX5_isIn (c_X5_isIn (hX s) x v1 x1 hc) rfl (Nat.le_of_ble_eq_true rfl) (Nat.le_of_ble_eq_true rfl) (Nat.le_refl _) (Nat.le_refl _) ?_
    refine dp_blk okX2_leastCrowded 0 (S' := (15, [some (.inr (some 1)), some (.inl v1), some (.inl v2), some (.inl x)], [.inl x1], (hX s))) rfl ?_
    refine dp_if0 okX2_leastCrowded rfl (fun (c : ¬ x1 = (0 : Int32)) => ?_) (fun (c : x1 = (0 : Int32)) => ?_)
    · have h := dp_ic c h
      refine dp_blk okX2_leastCrowded 0 (S' := (35, [some (.inr (some 1)), some (.inl v1), some (.inl v2), some (.inl x)], [], (hX s))) rfl ?_
      exact wj_X2_leastCrowded_35 s v1 v2 x _ h hk
    · have h := dp_ip c h
      refine dp_blk okX2_leastCrowded 3 (S' := (23, [some (.inr (some 1)), some (.inl v1), some (.inl v2), some (.inl x)], [.inl x, .inr (some 2)], (hX s))) rfl ?_
      obtain ⟨hi, h⟩ := dp_ite h
      refine dp_ial (g := (s.2 0)) okX2_leastCrowded rfl rfl (dp_inb_in hi) ?_
      refine dp_blk okX2_leastCrowded 2 (S' := (26, [some (.inr (some 1)), some (.inl v1), some (.inl v2), some (.inl x)], [.inl (((s.2 0) (x).toNatClampNeg) &&& v1)], (hX s))) rfl ?_
      obtain ⟨x2, hc, h⟩ := dp_bd_inv h
      refine dp_cS okX2_leastCrowded okJ6_bitCount_0f7a4 (as := [.inl (((s.2 0) (x).toNatClampNeg) &&& v1)]) (r := []) rfl lk_NearLiars_Net_61 npJ6_bitCount_0f7a4 (c_J6_bitCount_0f7a4 (hX s) (((s.2 0) (x).toNatClampNeg) &&& v1) x2 hc) rfl (Nat.le_of_ble_eq_true rfl) (Nat.le_of_ble_eq_true rfl) (Nat.le_refl _) (Nat.le_refl _) ?_
      refine dp_blk okX2_leastCrowded 1 (S' := (30, [some (.inr (some 1)), some (.inl v1), some (.inl v2), some (.inl x)], [.inl v2, .inl x2], (hX s))) rfl ?_
      refine dp_if okX2_leastCrowded rfl (fun (c : x2 < v2) => ?_) (fun (c : ¬ x2 < v2) => ?_)
      · have h := dp_ip c h
        refine dp_blk okX2_leastCrowded 0 (S' := (35, [some (.inr (some 1)), some (.inl v1), some (.inl v2), some (.inl x)], [], (hX s))) rfl ?_
        exact wj_X2_leastCrowded_35 s v1 v2 x _ h hk
      · have h := dp_ic c h
        refine dp_blk okX2_leastCrowded 1 (S' := (34, [some (.inr (some 1)), some (.inl v1), some (.inl v2), some (.inl x)], [.inl x], (hX s))) rfl ?_
        cases h
        exact dp_iret okX2_leastCrowded rfl rfl hk
def j_X2_leastCrowded (s : dp_Z) (v1 v2 : Int32) : Option Int32 := (dp_bd (dp_loop (jb_X2_leastCrowded_2 s v1 v2) dp_F (0 : Int32)) fun x => Sum.elim (fun x3 => (some x3)) (fun x3 => (some (-9 : Int32))) x)
set_option maxHeartbeats 1000000 in
set_option maxRecDepth 20000 in
theorem we_X2_leastCrowded {post : Option dp_V → dp_H → Prop} {h0 : dp_H} (s : dp_Z) (v1 v2 : Int32) (o : Int32) (h : j_X2_leastCrowded s v1 v2 = some o) (hk : post (some (.inl o)) (hX s)) : dp_W 1 mX2_leastCrowded false h0 0 0 post 0 0 (0, [some (.inr (some 1)), some (.inl v1), some (.inl v2), none], [], (hX s)) := by
  unfold j_X2_leastCrowded at h
  refine dp_blk okX2_leastCrowded 2 (S' := (2, [some (.inr (some 1)), some (.inl v1), some (.inl v2), some (.inl (0 : Int32))], [], (hX s))) rfl ?_
  obtain ⟨x3, hl, h⟩ := dp_bd_inv h
  refine dp_loopW (wl_X2_leastCrowded_2 s v1 v2) dp_F (0 : Int32) x3 hl ?_
  rcases x3 with x3 | x3
  · simp only [Sum.elim_inl] at h
    cases h
    exact hk
  · simp only [Sum.elim_inr] at h
    show dp_W 1 mX2_leastCrowded false h0 0 0 post 0 0 (41, [none, none, none, none], [], (hX s))
    refine dp_blk okX2_leastCrowded 1 (S' := (43, [none, none, none, none], [.inl (-9 : Int32)], (hX s))) rfl ?_
    cases h
    exact dp_iret okX2_leastCrowded rfl rfl hk
theorem c_X2_leastCrowded (s : dp_Z) (v1 v2 : Int32) (o : Int32) (h : j_X2_leastCrowded s v1 v2 = some o) : dp_C 1 mX2_leastCrowded false [.inr (some 1), .inl v1, .inl v2] (hX s) 0 0 (dp_R (some (.inl o)) (hX s)) := dp_C_of okX2_leastCrowded [some (.inr (some 1)), some (.inl v1), some (.inl v2), none] rfl (Nat.le_of_ble_eq_true rfl) (we_X2_leastCrowded s v1 v2 o h ⟨rfl, rfl⟩)
def j_X2_isThin (s : dp_Z) (v1 v2 : Int32) : Option Int32 := (dp_bd (j_X2_leastCrowded s v1 v2) fun x1 => (if x1 = (-9 : Int32) then (some (1 : Int32)) else (some (0 : Int32))))
set_option maxHeartbeats 1000000 in
set_option maxRecDepth 20000 in
theorem we_X2_isThin {post : Option dp_V → dp_H → Prop} {h0 : dp_H} (s : dp_Z) (v1 v2 : Int32) (o : Int32) (h : j_X2_isThin s v1 v2 = some o) (hk : post (some (.inl o)) (hX s)) : dp_W 2 mX2_isThin false h0 0 0 post 0 0 (0, [some (.inr (some 1)), some (.inl v1), some (.inl v2)], [], (hX s)) := by
  unfold j_X2_isThin at h
  refine dp_blk okX2_isThin 3 (S' := (3, [some (.inr (some 1)), some (.inl v1), some (.inl v2)], [.inl v2, .inl v1, .inr (some 1)], (hX s))) rfl ?_
  obtain ⟨x1, hc, h⟩ := dp_bd_inv h
  refine dp_cV okX2_isThin okX2_leastCrowded (as := [.inl v1, .inl v2]) (r := []) rfl lk_NearLiars_Net_70 npX2_leastCrowded (c_X2_leastCrowded s v1 v2 x1 hc) rfl rfl rfl rfl (Nat.le_of_ble_eq_true rfl) (Nat.le_of_ble_eq_true rfl) (Nat.le_refl _) (Nat.le_refl _) ?_
  refine dp_blk okX2_isThin 1 (S' := (8, [some (.inr (some 1)), some (.inl v1), some (.inl v2)], [.inl (-9 : Int32), .inl x1], (hX s))) rfl ?_
  refine dp_if okX2_isThin rfl (fun (c : ¬ x1 = (-9 : Int32)) => ?_) (fun (c : x1 = (-9 : Int32)) => ?_)
  · have h := dp_ic c h
    refine dp_blk okX2_isThin 1 (S' := (16, [some (.inr (some 1)), some (.inl v1), some (.inl v2)], [.inl (0 : Int32)], (hX s))) rfl ?_
    cases h
    exact dp_zret okX2_isThin rfl rfl (by decide) hk
  · have h := dp_ip c h
    refine dp_blk okX2_isThin 2 (S' := (16, [some (.inr (some 1)), some (.inl v1), some (.inl v2)], [.inl (1 : Int32)], (hX s))) rfl ?_
    cases h
    exact dp_zret okX2_isThin rfl rfl (by decide) hk
theorem c_X2_isThin (s : dp_Z) (v1 v2 : Int32) (o : Int32) (h : j_X2_isThin s v1 v2 = some o) : dp_C 2 mX2_isThin false [.inr (some 1), .inl v1, .inl v2] (hX s) 0 0 (dp_R (some (.inl o)) (hX s)) := dp_C_of okX2_isThin [some (.inr (some 1)), some (.inl v1), some (.inl v2)] rfl (Nat.le_of_ble_eq_true rfl) (we_X2_isThin s v1 v2 o h ⟨rfl, rfl⟩)
def jj_X2_withJoining_53 (s : dp_Z) (v2 v3 v4 v5 : Int32) : Option ((Int32 × Int32) ⊕ Int32) := (some (.inl (v4, (v5 + (1 : Int32)))))
set_option maxHeartbeats 1000000 in
set_option maxRecDepth 20000 in
theorem wj_X2_withJoining_53 {post : Option dp_V → dp_H → Prop} {h0 : dp_H} (s : dp_Z) (v2 v3 v4 v5 : Int32) (o : ((Int32 × Int32) ⊕ Int32)) (h : jj_X2_withJoining_53 s v2 v3 v4 v5 = some o) (hk : dp_LK (fun x : (Int32 × Int32) => dp_W 1 mX2_withJoining false h0 0 0 post 0 0 (6, [some (.inr (some 1)), none, some (.inl v2), some (.inl v3), some (.inl x.1), some (.inl x.2)], [], (hX s))) (fun x : Int32 => dp_W 1 mX2_withJoining false h0 0 0 post 0 0 (59, [none, none, none, none, some (.inl x), none], [], (hX s))) o) : dp_W 1 mX2_withJoining false h0 0 0 post 0 0 (53, [some (.inr (some 1)), none, some (.inl v2), some (.inl v3), some (.inl v4), some (.inl v5)], [], (hX s)) := by
  unfold jj_X2_withJoining_53 at h
  refine dp_blk okX2_withJoining 2 (S' := (6, [some (.inr (some 1)), none, some (.inl v2), some (.inl v3), some (.inl v4), some (.inl (v5 + (1 : Int32)))], [], (hX s))) rfl ?_
  cases h
  exact hk
def jb_X2_withJoining_6 (s : dp_Z) (v2 v3 : Int32) (x : (Int32 × Int32)) : Option ((Int32 × Int32) ⊕ Int32) := (if (s.1 0) ≤ x.2 then (some (.inr x.1)) else (dp_bd (j_X5_isIn x.2 (v2 ||| x.1)) fun x1 => (if x1 = (0 : Int32) then (if dp_inb x.2 12 = true then (dp_bd (j_J6_bitCount_0f7a4 (((s.2 0) (x.2).toNatClampNeg) &&& x.1)) fun x2 => (if x2 < v3 then (jj_X2_withJoining_53 s v2 v3 x.1 x.2) else (jj_X2_withJoining_53 s v2 v3 (x.1 ||| ((1 : Int32) <<< (x.2 &&& 31))) x.2))) else none) else (jj_X2_withJoining_53 s v2 v3 x.1 x.2))))
set_option maxHeartbeats 1000000 in
set_option maxRecDepth 20000 in
theorem wl_X2_withJoining_6 {post : Option dp_V → dp_H → Prop} {h0 : dp_H} (s : dp_Z) (v2 v3 : Int32) (x : (Int32 × Int32)) (o : ((Int32 × Int32) ⊕ Int32)) (h : jb_X2_withJoining_6 s v2 v3 x = some o) (hk : dp_LK (fun x : (Int32 × Int32) => dp_W 1 mX2_withJoining false h0 0 0 post 0 0 (6, [some (.inr (some 1)), none, some (.inl v2), some (.inl v3), some (.inl x.1), some (.inl x.2)], [], (hX s))) (fun x : Int32 => dp_W 1 mX2_withJoining false h0 0 0 post 0 0 (59, [none, none, none, none, some (.inl x), none], [], (hX s))) o) : dp_W 1 mX2_withJoining false h0 0 0 post 0 0 (6, [some (.inr (some 1)), none, some (.inl v2), some (.inl v3), some (.inl x.1), some (.inl x.2)], [], (hX s)) := by
  unfold jb_X2_withJoining_6 at h
  refine dp_blk okX2_withJoining 3 (S' := (12, [some (.inr (some 1)), none, some (.inl v2), some (.inl v3), some (.inl x.1), some (.inl x.2)], [.inl (s.1 0), .inl x.2], (hX s))) rfl ?_
  refine dp_if okX2_withJoining rfl (fun (c : (s.1 0) ≤ x.2) => ?_) (fun (c : ¬ (s.1 0) ≤ x.2) => ?_)
  · have h := dp_ip c h
    refine dp_blk okX2_withJoining 0 (S' := (59, [some (.inr (some 1)), none, some (.inl v2), some (.inl v3), some (.inl x.1), some (.inl x.2)], [], (hX s))) rfl ?_
    cases h
    refine dp_fg [false, false, false, false, true, false] (L' := [none, none, none, none, some (.inl x.1), none]) rfl rfl ?_
    exact hk
  · have h := dp_ic c h
    refine dp_blk okX2_withJoining 4 (S' := (21, [some (.inr (some 1)), none, some (.inl v2), some (.inl v3), some (.inl x.1), some (.inl x.2)], [.inl (v2 ||| x.1), .inl x.2], (hX s))) rfl ?_
    obtain ⟨x1, hc, h⟩ := dp_bd_inv h
    refine dp_cSN okX2_withJoining okX5_isIn (as := [.inl x.2, .inl (v2 ||| x.1)]) (r := []) rfl lk_NearLiars_Net_57 npX5_isIn (c_X5_isIn (hX s) x.2 (v2 ||| x.1) x1 hc) rfl (Nat.le_of_ble_eq_true rfl) (Nat.le_of_ble_eq_true rfl) (Nat.le_refl _) (Nat.le_refl _) ?_
    refine dp_blk okX2_withJoining 0 (S' := (24, [some (.inr (some 1)), none, some (.inl v2), some (.inl v3), some (.inl x.1), some (.inl x.2)], [.inl x1], (hX s))) rfl ?_
    refine dp_if0 okX2_withJoining rfl (fun (c : ¬ x1 = (0 : Int32)) => ?_) (fun (c : x1 = (0 : Int32)) => ?_)
    · have h := dp_ic c h
      refine dp_blk okX2_withJoining 0 (S' := (53, [some (.inr (some 1)), none, some (.inl v2), some (.inl v3), some (.inl x.1), some (.inl x.2)], [], (hX s))) rfl ?_
      exact wj_X2_withJoining_53 s v2 v3 x.1 x.2 _ h hk
    · have h := dp_ip c h
      refine dp_blk okX2_withJoining 3 (S' := (33, [some (.inr (some 1)), none, some (.inl v2), some (.inl v3), some (.inl x.1), some (.inl x.2)], [.inl x.2, .inr (some 2)], (hX s))) rfl ?_
      obtain ⟨hi, h⟩ := dp_ite h
      refine dp_ial (g := (s.2 0)) okX2_withJoining rfl rfl (dp_inb_in hi) ?_
      refine dp_blk okX2_withJoining 2 (S' := (37, [some (.inr (some 1)), none, some (.inl v2), some (.inl v3), some (.inl x.1), some (.inl x.2)], [.inl (((s.2 0) (x.2).toNatClampNeg) &&& x.1)], (hX s))) rfl ?_
      obtain ⟨x2, hc, h⟩ := dp_bd_inv h
      refine dp_cS okX2_withJoining okJ6_bitCount_0f7a4 (as := [.inl (((s.2 0) (x.2).toNatClampNeg) &&& x.1)]) (r := []) rfl lk_NearLiars_Net_61 npJ6_bitCount_0f7a4 (c_J6_bitCount_0f7a4 (hX s) (((s.2 0) (x.2).toNatClampNeg) &&& x.1) x2 hc) rfl (Nat.le_of_ble_eq_true rfl) (Nat.le_of_ble_eq_true rfl) (Nat.le_refl _) (Nat.le_refl _) ?_
      refine dp_blk okX2_withJoining 1 (S' := (41, [some (.inr (some 1)), none, some (.inl v2), some (.inl v3), some (.inl x.1), some (.inl x.2)], [.inl v3, .inl x2], (hX s))) rfl ?_
      refine dp_if okX2_withJoining rfl (fun (c : x2 < v3) => ?_) (fun (c : ¬ x2 < v3) => ?_)
      · have h := dp_ip c h
        refine dp_blk okX2_withJoining 0 (S' := (53, [some (.inr (some 1)), none, some (.inl v2), some (.inl v3), some (.inl x.1), some (.inl x.2)], [], (hX s))) rfl ?_
        exact wj_X2_withJoining_53 s v2 v3 x.1 x.2 _ h hk
      · have h := dp_ic c h
        refine dp_blk okX2_withJoining 6 (S' := (53, [some (.inr (some 1)), none, some (.inl v2), some (.inl v3), some (.inl (x.1 ||| ((1 : Int32) <<< (x.2 &&& 31)))), some (.inl x.2)], [], (hX s))) rfl ?_
        exact wj_X2_withJoining_53 s v2 v3 (x.1 ||| ((1 : Int32) <<< (x.2 &&& 31))) x.2 _ h hk
def j_X2_withJoining (s : dp_Z) (v1 v2 v3 : Int32) : Option Int32 := (dp_bd (dp_loop (jb_X2_withJoining_6 s v2 v3) dp_F (v1, (0 : Int32))) fun x3 => (some x3))
set_option maxHeartbeats 1000000 in
set_option maxRecDepth 20000 in
theorem we_X2_withJoining {post : Option dp_V → dp_H → Prop} {h0 : dp_H} (s : dp_Z) (v1 v2 v3 : Int32) (o : Int32) (h : j_X2_withJoining s v1 v2 v3 = some o) (hk : post (some (.inl o)) (hX s)) : dp_W 1 mX2_withJoining false h0 0 0 post 0 0 (0, [some (.inr (some 1)), some (.inl v1), some (.inl v2), some (.inl v3), none, none], [], (hX s)) := by
  unfold j_X2_withJoining at h
  refine dp_blk okX2_withJoining 4 (S' := (6, [some (.inr (some 1)), some (.inl v1), some (.inl v2), some (.inl v3), some (.inl v1), some (.inl (0 : Int32))], [], (hX s))) rfl ?_
  refine dp_fg [true, false, true, true, true, true] (L' := [some (.inr (some 1)), none, some (.inl v2), some (.inl v3), some (.inl v1), some (.inl (0 : Int32))]) rfl rfl ?_
  obtain ⟨x3, hl, h⟩ := dp_bd_inv h
  refine dp_loopW (wl_X2_withJoining_6 s v2 v3) dp_F (v1, (0 : Int32)) x3 hl ?_
  show dp_W 1 mX2_withJoining false h0 0 0 post 0 0 (59, [none, none, none, none, some (.inl x3), none], [], (hX s))
  refine dp_blk okX2_withJoining 1 (S' := (61, [none, none, none, none, some (.inl x3), none], [.inl x3], (hX s))) rfl ?_
  cases h
  exact dp_iret okX2_withJoining rfl rfl hk
theorem c_X2_withJoining (s : dp_Z) (v1 v2 v3 : Int32) (o : Int32) (h : j_X2_withJoining s v1 v2 v3 = some o) : dp_C 1 mX2_withJoining false [.inr (some 1), .inl v1, .inl v2, .inl v3] (hX s) 0 0 (dp_R (some (.inl o)) (hX s)) := dp_C_of okX2_withJoining [some (.inr (some 1)), some (.inl v1), some (.inl v2), some (.inl v3), none, none] rfl (Nat.le_of_ble_eq_true rfl) (we_X2_withJoining s v1 v2 v3 o h ⟨rfl, rfl⟩)
def jb_X2_spread_24 (s : dp_Z) (v1 v2 : Int32) (x : (Int32 × Int32)) : Option ((Int32 × Int32) ⊕ Int32) := (if (12 : Int32) ≤ x.2 then (some (.inr x.1)) else (dp_bd (j_X2_withJoining s x.1 v1 v2) fun x2 => (if x2 = x.1 then (some (.inr x.1)) else (some (.inl (x2, (x.2 + (1 : Int32))))))))
set_option maxHeartbeats 1000000 in
set_option maxRecDepth 20000 in
theorem wl_X2_spread_24 {post : Option dp_V → dp_H → Prop} {h0 : dp_H} (s : dp_Z) (v1 v2 : Int32) (x : (Int32 × Int32)) (o : ((Int32 × Int32) ⊕ Int32)) (h : jb_X2_spread_24 s v1 v2 x = some o) (hk : dp_LK (fun x : (Int32 × Int32) => dp_W 2 mX2_spread false h0 0 0 post 0 0 (24, [some (.inr (some 1)), some (.inl v1), some (.inl v2), some (.inl x.1), some (.inl x.2), none], [], (hX s))) (fun x : Int32 => dp_W 2 mX2_spread false h0 0 0 post 0 0 (58, [none, none, none, some (.inl x), none, none], [], (hX s))) o) : dp_W 2 mX2_spread false h0 0 0 post 0 0 (24, [some (.inr (some 1)), some (.inl v1), some (.inl v2), some (.inl x.1), some (.inl x.2), none], [], (hX s)) := by
  unfold jb_X2_spread_24 at h
  refine dp_blk okX2_spread 2 (S' := (28, [some (.inr (some 1)), some (.inl v1), some (.inl v2), some (.inl x.1), some (.inl x.2), none], [.inl (12 : Int32), .inl x.2], (hX s))) rfl ?_
  refine dp_if okX2_spread rfl (fun (c : (12 : Int32) ≤ x.2) => ?_) (fun (c : ¬ (12 : Int32) ≤ x.2) => ?_)
  · have h := dp_ip c h
    refine dp_blk okX2_spread 0 (S' := (58, [some (.inr (some 1)), some (.inl v1), some (.inl v2), some (.inl x.1), some (.inl x.2), none], [], (hX s))) rfl ?_
    cases h
    refine dp_fg [false, false, false, true, false, false] (L' := [none, none, none, some (.inl x.1), none, none]) rfl rfl ?_
    exact hk
  · have h := dp_ic c h
    refine dp_blk okX2_spread 4 (S' := (35, [some (.inr (some 1)), some (.inl v1), some (.inl v2), some (.inl x.1), some (.inl x.2), none], [.inl v2, .inl v1, .inl x.1, .inr (some 1)], (hX s))) rfl ?_
    obtain ⟨x2, hc, h⟩ := dp_bd_inv h
    refine dp_cV okX2_spread okX2_withJoining (as := [.inl x.1, .inl v1, .inl v2]) (r := []) rfl lk_NearLiars_Net_74 npX2_withJoining (c_X2_withJoining s x.1 v1 v2 x2 hc) rfl rfl rfl rfl (Nat.le_of_ble_eq_true rfl) (Nat.le_of_ble_eq_true rfl) (Nat.le_refl _) (Nat.le_refl _) ?_
    refine dp_blk okX2_spread 3 (S' := (43, [some (.inr (some 1)), some (.inl v1), some (.inl v2), some (.inl x.1), some (.inl x.2), some (.inl x2)], [.inl x.1, .inl x2], (hX s))) rfl ?_
    refine dp_if okX2_spread rfl (fun (c : ¬ x2 = x.1) => ?_) (fun (c : x2 = x.1) => ?_)
    · have h := dp_ic c h
      refine dp_blk okX2_spread 4 (S' := (24, [some (.inr (some 1)), some (.inl v1), some (.inl v2), some (.inl x2), some (.inl (x.2 + (1 : Int32))), some (.inl x2)], [], (hX s))) rfl ?_
      cases h
      refine dp_fg [true, true, true, true, true, false] (L' := [some (.inr (some 1)), some (.inl v1), some (.inl v2), some (.inl x2), some (.inl (x.2 + (1 : Int32))), none]) rfl rfl ?_
      exact hk
    · have h := dp_ip c h
      refine dp_blk okX2_spread 1 (S' := (58, [some (.inr (some 1)), some (.inl v1), some (.inl v2), some (.inl x.1), some (.inl x.2), some (.inl x2)], [], (hX s))) rfl ?_
      cases h
      refine dp_fg [false, false, false, true, false, false] (L' := [none, none, none, some (.inl x.1), none, none]) rfl rfl ?_
      exact hk
def j_X2_spread (s : dp_Z) (v1 v2 : Int32) : Option Int32 := (if dp_inb (s.1 3) 12 = true then (dp_bd (some ((((1 : Int32) <<< ((s.1 3) &&& 31)) ||| ((s.2 0) ((s.1 3)).toNatClampNeg)) &&& (v1 ^^^ (-1 : Int32)))) fun y1 => (dp_bd (dp_loop (jb_X2_spread_24 s v1 v2) dp_F (y1, (0 : Int32))) fun x3 => (some x3))) else none)
set_option maxHeartbeats 1000000 in
set_option maxRecDepth 20000 in
theorem we_X2_spread {post : Option dp_V → dp_H → Prop} {h0 : dp_H} (s : dp_Z) (v1 v2 : Int32) (o : Int32) (h : j_X2_spread s v1 v2 = some o) (hk : post (some (.inl o)) (hX s)) : dp_W 2 mX2_spread false h0 0 0 post 0 0 (0, [some (.inr (some 1)), some (.inl v1), some (.inl v2), none, none, none], [], (hX s)) := by
  unfold j_X2_spread at h
  refine dp_blk okX2_spread 8 (S' := (14, [some (.inr (some 1)), some (.inl v1), some (.inl v2), none, none, none], [.inl (s.1 3), .inr (some 2), .inl ((1 : Int32) <<< ((s.1 3) &&& 31))], (hX s))) rfl ?_
  obtain ⟨hi, h⟩ := dp_ite h
  refine dp_ial (g := (s.2 0)) okX2_spread rfl rfl (dp_inb_in hi) ?_
  obtain ⟨y1, hy, h⟩ := dp_bd_inv h
  have hy := Option.some.inj hy
  refine dp_blk okX2_spread 6 (S' := (21, [some (.inr (some 1)), some (.inl v1), some (.inl v2), some (.inl y1), none, none], [], (hX s))) (by subst hy; rfl) ?_
  refine dp_blk okX2_spread 2 (S' := (24, [some (.inr (some 1)), some (.inl v1), some (.inl v2), some (.inl y1), some (.inl (0 : Int32)), none], [], (hX s))) rfl ?_
  obtain ⟨x3, hl, h⟩ := dp_bd_inv h
  refine dp_loopW (wl_X2_spread_24 s v1 v2) dp_F (y1, (0 : Int32)) x3 hl ?_
  show dp_W 2 mX2_spread false h0 0 0 post 0 0 (58, [none, none, none, some (.inl x3), none, none], [], (hX s))
  refine dp_blk okX2_spread 1 (S' := (59, [none, none, none, some (.inl x3), none, none], [.inl x3], (hX s))) rfl ?_
  cases h
  exact dp_iret okX2_spread rfl rfl hk
theorem c_X2_spread (s : dp_Z) (v1 v2 : Int32) (o : Int32) (h : j_X2_spread s v1 v2 = some o) : dp_C 2 mX2_spread false [.inr (some 1), .inl v1, .inl v2] (hX s) 0 0 (dp_R (some (.inl o)) (hX s)) := dp_C_of okX2_spread [some (.inr (some 1)), some (.inl v1), some (.inl v2), none, none, none] rfl (Nat.le_of_ble_eq_true rfl) (we_X2_spread s v1 v2 o h ⟨rfl, rfl⟩)
def j_X2_cut (s : dp_Z) (v1 v2 : Int32) : Option Int32 := (dp_bd (j_X2_all s) fun x1 => (dp_bd (j_X2_spread s v1 v2) fun x2 => (some ((x1 &&& (v1 ^^^ (-1 : Int32))) &&& (x2 ^^^ (-1 : Int32))))))
set_option maxHeartbeats 1000000 in
set_option maxRecDepth 20000 in
theorem we_X2_cut {post : Option dp_V → dp_H → Prop} {h0 : dp_H} (s : dp_Z) (v1 v2 : Int32) (o : Int32) (h : j_X2_cut s v1 v2 = some o) (hk : post (some (.inl o)) (hX s)) : dp_W 3 mX2_cut false h0 0 0 post 0 0 (0, [some (.inr (some 1)), some (.inl v1), some (.inl v2)], [], (hX s)) := by
  unfold j_X2_cut at h
  refine dp_blk okX2_cut 1 (S' := (1, [some (.inr (some 1)), some (.inl v1), some (.inl v2)], [.inr (some 1)], (hX s))) rfl ?_
  obtain ⟨x1, hc, h⟩ := dp_bd_inv h
  refine dp_cV okX2_cut okX2_all (as := []) (r := []) rfl lk_NearLiars_Net_66 npX2_all (c_X2_all s x1 hc) rfl rfl rfl rfl (Nat.le_of_ble_eq_true rfl) (Nat.le_of_ble_eq_true rfl) (Nat.le_refl _) (Nat.le_refl _) ?_
  refine dp_blk okX2_cut 7 (S' := (11, [some (.inr (some 1)), some (.inl v1), some (.inl v2)], [.inl v2, .inl v1, .inr (some 1), .inl (x1 &&& (v1 ^^^ (-1 : Int32)))], (hX s))) rfl ?_
  obtain ⟨x2, hc, h⟩ := dp_bd_inv h
  refine dp_cV okX2_cut okX2_spread (as := [.inl v1, .inl v2]) (r := [.inl (x1 &&& (v1 ^^^ (-1 : Int32)))]) rfl lk_NearLiars_Net_77 npX2_spread (c_X2_spread s v1 v2 x2 hc) rfl rfl rfl rfl (Nat.le_of_ble_eq_true rfl) (Nat.le_of_ble_eq_true rfl) (Nat.le_refl _) (Nat.le_refl _) ?_
  refine dp_blk okX2_cut 3 (S' := (17, [some (.inr (some 1)), some (.inl v1), some (.inl v2)], [.inl ((x1 &&& (v1 ^^^ (-1 : Int32))) &&& (x2 ^^^ (-1 : Int32)))], (hX s))) rfl ?_
  cases h
  exact dp_iret okX2_cut rfl rfl hk
theorem c_X2_cut (s : dp_Z) (v1 v2 : Int32) (o : Int32) (h : j_X2_cut s v1 v2 = some o) : dp_C 3 mX2_cut false [.inr (some 1), .inl v1, .inl v2] (hX s) 0 0 (dp_R (some (.inl o)) (hX s)) := dp_C_of okX2_cut [some (.inr (some 1)), some (.inl v1), some (.inl v2)] rfl (Nat.le_of_ble_eq_true rfl) (we_X2_cut s v1 v2 o h ⟨rfl, rfl⟩)
def jb_X2_greatestBorne_13 (s : dp_Z) (v2 : Int32) (x : Int32) : Option (Int32 ⊕ Int32) := (if x ≤ (0 : Int32) then (some (.inr x)) else (dp_bd (j_X2_isSet s v2) fun x2 => (if x2 = (0 : Int32) then (some (.inr x)) else (dp_bd (j_X2_isThin s v2 x) fun x3 => (if x3 = (0 : Int32) then (some (.inr x)) else (dp_bd (j_X2_cut s v2 x) fun x4 => (if x4 = (0 : Int32) then (some (.inr x)) else (some (.inl (x + (-1 : Int32)))))))))))
set_option maxHeartbeats 1000000 in
set_option maxRecDepth 20000 in
theorem wl_X2_greatestBorne_13 {post : Option dp_V → dp_H → Prop} {h0 : dp_H} (s : dp_Z) (v2 : Int32) (x : Int32) (o : (Int32 ⊕ Int32)) (h : jb_X2_greatestBorne_13 s v2 x = some o) (hk : dp_LK (fun x : Int32 => dp_W 4 mX2_greatestBorne false h0 0 0 post 0 0 (13, [some (.inr (some 1)), some (.inl x), some (.inl v2)], [], (hX s))) (fun x : Int32 => dp_W 4 mX2_greatestBorne false h0 0 0 post 0 0 (49, [some (.inr (some 1)), some (.inl x), some (.inl v2)], [], (hX s))) o) : dp_W 4 mX2_greatestBorne false h0 0 0 post 0 0 (13, [some (.inr (some 1)), some (.inl x), some (.inl v2)], [], (hX s)) := by
  unfold jb_X2_greatestBorne_13 at h
  refine dp_blk okX2_greatestBorne 1 (S' := (14, [some (.inr (some 1)), some (.inl x), some (.inl v2)], [.inl x], (hX s))) rfl ?_
  refine dp_if0 okX2_greatestBorne rfl (fun (c : x ≤ (0 : Int32)) => ?_) (fun (c : ¬ x ≤ (0 : Int32)) => ?_)
  · have h := dp_ip c h
    refine dp_blk okX2_greatestBorne 0 (S' := (49, [some (.inr (some 1)), some (.inl x), some (.inl v2)], [], (hX s))) rfl ?_
    cases h
    exact hk
  · have h := dp_ic c h
    refine dp_blk okX2_greatestBorne 2 (S' := (19, [some (.inr (some 1)), some (.inl x), some (.inl v2)], [.inl v2, .inr (some 1)], (hX s))) rfl ?_
    obtain ⟨x2, hc, h⟩ := dp_bd_inv h
    refine dp_cV okX2_greatestBorne okX2_isSet (as := [.inl v2]) (r := []) rfl lk_NearLiars_Net_80 npX2_isSet (c_X2_isSet s v2 x2 hc) rfl rfl rfl rfl (Nat.le_of_ble_eq_true rfl) (Nat.le_of_ble_eq_true rfl) (Nat.le_refl _) (Nat.le_refl _) ?_
    refine dp_blk okX2_greatestBorne 0 (S' := (22, [some (.inr (some 1)), some (.inl x), some (.inl v2)], [.inl x2], (hX s))) rfl ?_
    refine dp_if0 okX2_greatestBorne rfl (fun (c : x2 = (0 : Int32)) => ?_) (fun (c : ¬ x2 = (0 : Int32)) => ?_)
    · have h := dp_ip c h
      refine dp_blk okX2_greatestBorne 0 (S' := (49, [some (.inr (some 1)), some (.inl x), some (.inl v2)], [], (hX s))) rfl ?_
      cases h
      exact hk
    · have h := dp_ic c h
      refine dp_blk okX2_greatestBorne 3 (S' := (28, [some (.inr (some 1)), some (.inl x), some (.inl v2)], [.inl x, .inl v2, .inr (some 1)], (hX s))) rfl ?_
      obtain ⟨x3, hc, h⟩ := dp_bd_inv h
      refine dp_cV okX2_greatestBorne okX2_isThin (as := [.inl v2, .inl x]) (r := []) rfl lk_NearLiars_Net_84 npX2_isThin (c_X2_isThin s v2 x x3 hc) rfl rfl rfl rfl (Nat.le_of_ble_eq_true rfl) (Nat.le_of_ble_eq_true rfl) (Nat.le_refl _) (Nat.le_refl _) ?_
      refine dp_blk okX2_greatestBorne 0 (S' := (31, [some (.inr (some 1)), some (.inl x), some (.inl v2)], [.inl x3], (hX s))) rfl ?_
      refine dp_if0 okX2_greatestBorne rfl (fun (c : x3 = (0 : Int32)) => ?_) (fun (c : ¬ x3 = (0 : Int32)) => ?_)
      · have h := dp_ip c h
        refine dp_blk okX2_greatestBorne 0 (S' := (49, [some (.inr (some 1)), some (.inl x), some (.inl v2)], [], (hX s))) rfl ?_
        cases h
        exact hk
      · have h := dp_ic c h
        refine dp_blk okX2_greatestBorne 3 (S' := (37, [some (.inr (some 1)), some (.inl x), some (.inl v2)], [.inl x, .inl v2, .inr (some 1)], (hX s))) rfl ?_
        obtain ⟨x4, hc, h⟩ := dp_bd_inv h
        refine dp_cV okX2_greatestBorne okX2_cut (as := [.inl v2, .inl x]) (r := []) rfl lk_NearLiars_Net_87 npX2_cut (c_X2_cut s v2 x x4 hc) rfl rfl rfl rfl (Nat.le_of_ble_eq_true rfl) (Nat.le_of_ble_eq_true rfl) (Nat.le_refl _) (Nat.le_refl _) ?_
        refine dp_blk okX2_greatestBorne 0 (S' := (40, [some (.inr (some 1)), some (.inl x), some (.inl v2)], [.inl x4], (hX s))) rfl ?_
        refine dp_if0 okX2_greatestBorne rfl (fun (c : x4 = (0 : Int32)) => ?_) (fun (c : ¬ x4 = (0 : Int32)) => ?_)
        · have h := dp_ip c h
          refine dp_blk okX2_greatestBorne 0 (S' := (49, [some (.inr (some 1)), some (.inl x), some (.inl v2)], [], (hX s))) rfl ?_
          cases h
          exact hk
        · have h := dp_ic c h
          refine dp_blk okX2_greatestBorne 2 (S' := (13, [some (.inr (some 1)), some (.inl (x + (-1 : Int32))), some (.inl v2)], [], (hX s))) rfl ?_
          cases h
          exact hk
def jb_X2_greatestBorne_5 (s : dp_Z) (x : (Int32 × Int32)) : Option ((Int32 × Int32) ⊕ Int32) := (dp_bd (j_X2_all s) fun x1 => (if x1 < x.2 then (some (.inr x.1)) else (dp_bd (dp_loop (jb_X2_greatestBorne_13 s x.2) dp_F x.1) fun x5 => (some (.inl (x5, (x.2 + (1 : Int32))))))))
set_option maxHeartbeats 1000000 in
set_option maxRecDepth 20000 in
theorem wl_X2_greatestBorne_5 {post : Option dp_V → dp_H → Prop} {h0 : dp_H} (s : dp_Z) (x : (Int32 × Int32)) (o : ((Int32 × Int32) ⊕ Int32)) (h : jb_X2_greatestBorne_5 s x = some o) (hk : dp_LK (fun x : (Int32 × Int32) => dp_W 4 mX2_greatestBorne false h0 0 0 post 0 0 (5, [some (.inr (some 1)), some (.inl x.1), some (.inl x.2)], [], (hX s))) (fun x : Int32 => dp_W 4 mX2_greatestBorne false h0 0 0 post 0 0 (55, [none, some (.inl x), none], [], (hX s))) o) : dp_W 4 mX2_greatestBorne false h0 0 0 post 0 0 (5, [some (.inr (some 1)), some (.inl x.1), some (.inl x.2)], [], (hX s)) := by
  unfold jb_X2_greatestBorne_5 at h
  refine dp_blk okX2_greatestBorne 2 (S' := (7, [some (.inr (some 1)), some (.inl x.1), some (.inl x.2)], [.inr (some 1), .inl x.2], (hX s))) rfl ?_
  obtain ⟨x1, hc, h⟩ := dp_bd_inv h
  refine dp_cV okX2_greatestBorne okX2_all (as := []) (r := [.inl x.2]) rfl lk_NearLiars_Net_66 npX2_all (c_X2_all s x1 hc) rfl rfl rfl rfl (Nat.le_of_ble_eq_true rfl) (Nat.le_of_ble_eq_true rfl) (Nat.le_refl _) (Nat.le_refl _) ?_
  refine dp_blk okX2_greatestBorne 0 (S' := (10, [some (.inr (some 1)), some (.inl x.1), some (.inl x.2)], [.inl x1, .inl x.2], (hX s))) rfl ?_
  refine dp_if okX2_greatestBorne rfl (fun (c : x1 < x.2) => ?_) (fun (c : ¬ x1 < x.2) => ?_)
  · have h := dp_ip c h
    refine dp_blk okX2_greatestBorne 0 (S' := (55, [some (.inr (some 1)), some (.inl x.1), some (.inl x.2)], [], (hX s))) rfl ?_
    cases h
    refine dp_fg [false, true, false] (L' := [none, some (.inl x.1), none]) rfl rfl ?_
    exact hk
  · have h := dp_ic c h
    refine dp_blk okX2_greatestBorne 0 (S' := (13, [some (.inr (some 1)), some (.inl x.1), some (.inl x.2)], [], (hX s))) rfl ?_
    obtain ⟨x5, hl, h⟩ := dp_bd_inv h
    refine dp_loopW (wl_X2_greatestBorne_13 s x.2) dp_F x.1 x5 hl ?_
    show dp_W 4 mX2_greatestBorne false h0 0 0 post 0 0 (49, [some (.inr (some 1)), some (.inl x5), some (.inl x.2)], [], (hX s))
    refine dp_blk okX2_greatestBorne 2 (S' := (5, [some (.inr (some 1)), some (.inl x5), some (.inl (x.2 + (1 : Int32)))], [], (hX s))) rfl ?_
    cases h
    exact hk
def j_X2_greatestBorne (s : dp_Z) : Option Int32 := (dp_bd (dp_loop (jb_X2_greatestBorne_5 s) dp_F ((6 : Int32), (0 : Int32))) fun x6 => (if x6 ≤ (0 : Int32) then (some (-9 : Int32)) else (some x6)))
set_option maxHeartbeats 1000000 in
set_option maxRecDepth 20000 in
theorem we_X2_greatestBorne {post : Option dp_V → dp_H → Prop} {h0 : dp_H} (s : dp_Z) (o : Int32) (h : j_X2_greatestBorne s = some o) (hk : post (some (.inl o)) (hX s)) : dp_W 4 mX2_greatestBorne false h0 0 0 post 0 0 (0, [some (.inr (some 1)), none, none], [], (hX s)) := by
  unfold j_X2_greatestBorne at h
  refine dp_blk okX2_greatestBorne 4 (S' := (5, [some (.inr (some 1)), some (.inl (6 : Int32)), some (.inl (0 : Int32))], [], (hX s))) rfl ?_
  obtain ⟨x6, hl, h⟩ := dp_bd_inv h
  refine dp_loopW (wl_X2_greatestBorne_5 s) dp_F ((6 : Int32), (0 : Int32)) x6 hl ?_
  show dp_W 4 mX2_greatestBorne false h0 0 0 post 0 0 (55, [none, some (.inl x6), none], [], (hX s))
  refine dp_blk okX2_greatestBorne 1 (S' := (56, [none, some (.inl x6), none], [.inl x6], (hX s))) rfl ?_
  refine dp_if0 okX2_greatestBorne rfl (fun (c : x6 ≤ (0 : Int32)) => ?_) (fun (c : ¬ x6 ≤ (0 : Int32)) => ?_)
  · have h := dp_ip c h
    refine dp_blk okX2_greatestBorne 1 (S' := (65, [none, some (.inl x6), none], [.inl (-9 : Int32)], (hX s))) rfl ?_
    cases h
    exact dp_iret okX2_greatestBorne rfl rfl hk
  · have h := dp_ic c h
    refine dp_blk okX2_greatestBorne 2 (S' := (65, [none, some (.inl x6), none], [.inl x6], (hX s))) rfl ?_
    cases h
    exact dp_iret okX2_greatestBorne rfl rfl hk
theorem c_X2_greatestBorne (s : dp_Z) (o : Int32) (h : j_X2_greatestBorne s = some o) : dp_C 4 mX2_greatestBorne false [.inr (some 1)] (hX s) 0 0 (dp_R (some (.inl o)) (hX s)) := dp_C_of okX2_greatestBorne [some (.inr (some 1)), none, none] rfl (Nat.le_of_ble_eq_true rfl) (we_X2_greatestBorne s o h ⟨rfl, rfl⟩)
