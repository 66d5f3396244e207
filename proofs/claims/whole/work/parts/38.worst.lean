/-! ===== 38: sets that are asked for; the worst ===== -/
theorem z_int : (0 : Int32).toInt = 0 := by decide
theorem d_pos {a b : Nat} (ha : a < 2 ^ 30) (hb : b < 2 ^ 30) : 0 < nI a - nI b ↔ b < a := by
  rw [i_lt, pk_sub_toInt ha hb, z_int]
  omega
theorem d_le {a b : Nat} (ha : a < 2 ^ 30) (hb : b < 2 ^ 30) : nI a - nI b ≤ 0 ↔ a ≤ b := by
  rw [i_le, pk_sub_toInt ha hb, z_int]
  omega
theorem d_zero {a b : Nat} (ha : a < 2 ^ 30) (hb : b < 2 ^ 30) : nI a - nI b = 0 ↔ a = b := by
  rw [← Int32.toInt_inj, pk_sub_toInt ha hb, z_int]
  omega
theorem VN.nv {σ μ : dp_Z} {n w h d v k : Nat} {L : Nat → Nat} (hV : VN σ μ n w h d v k L) : NV σ n d L ∧ NV μ n d L := ⟨⟨hV.2.1.1, hV.2.1.2.2.2.1, fun i hi => ⟨(hV.2.2.2.1 i hi).1, (hV.2.2.2.1 i hi).2.1⟩⟩, ⟨hV.2.2.1.1, hV.2.2.1.2.2.2.1, fun i hi => ⟨(hV.2.2.2.1 i hi).1, (hV.2.2.2.1 i hi).2.2⟩⟩⟩
theorem xor_self_iff (a b : Nat) : a ^^^ b = 0 ↔ a = b := by
  constructor
  · intro h
    apply Nat.eq_of_testBit_eq
    intro i
    have := congrArg (fun z => z.testBit i) h
    simp only [Nat.testBit_xor, Nat.zero_testBit] at this
    revert this
    cases a.testBit i <;> cases b.testBit i <;> simp
  · rintro rfl
    exact Nat.xor_self a
section WS
variable {σ σ' μ μ' s m : dp_Z} {n w h d v k q : Nat} {L : Nat → Nat}
theorem set_class (hs : NV s n d L) (hn : n ≤ 12) (hd : d < n) {j : Nat} (hj : j < 2 ^ 31) : j_X2_isSet s (nI j) = some (if j < 2 ^ n ∧ j.testBit d = false then 1 else 0) := by
  unfold j_X2_isSet j_X2_all
  rw [hs.1, hs.2.1, all_eq hn, dp_bd_some, mb_not _ _ hj, Nat.and_two_pow_sub_one_eq_mod, mb_isIn hj (by omega), dp_bd_some]
  by_cases c : j < 2 ^ n
  · rw [Nat.mod_eq_of_lt c, Nat.xor_self, if_pos (show nI 0 = (0 : Int32) from rfl)]
    cases hz : j.testBit d with
    | true => simp [c]
    | false => simp [c]
  · have hne : ¬ j ^^^ j % 2 ^ n = 0 := by
      rw [xor_self_iff]
      have := Nat.mod_lt j (show 0 < 2 ^ n from Nat.two_pow_pos n)
      omega
    have hlt : j ^^^ j % 2 ^ n < 2 ^ 31 := Nat.xor_lt_two_pow (n := 31) hj (Nat.lt_of_le_of_lt (Nat.mod_le _ _) hj)
    rw [if_neg (nz hlt hne), if_neg (fun z => c z.1)]
theorem set_model (hm : NV m n d L) (hn : n ≤ 12) (hd : d < n) {j : Nat} (hj : j < 2 ^ 31) : j_X6_isSet m (nI j) = some (if j < 2 ^ n ∧ j.testBit d = false then 1 else 0) := by
  have h2 : 2 ^ n ≤ 4096 := Nat.pow_le_pow_right (n := 2) (by decide) hn
  unfold j_X6_isSet
  rw [hm.1, hm.2.1, if_neg (nI_pos hj), mb_one n (by omega), mb_has hj (by omega), dp_bd_some]
  by_cases c : j < 2 ^ n
  · rw [if_neg (nI_ge c (by omega))]
    cases hz : j.testBit d with
    | true => simp [c]
    | false => simp [c]
  · rw [if_pos (nI_le (by omega) hj), if_neg (fun z => c z.1)]
theorem set_neg (hs : NV s n d L) (hm : NV m n d L) (hn : n ≤ 12) {a : Int32} (ha : a < 0) : j_X2_isSet s a = some 0 ∧ j_X6_isSet m a = some 0 := by
  unfold j_X2_isSet j_X6_isSet j_X2_all
  rw [if_pos ha, hs.1, all_eq hn, dp_bd_some]
  refine ⟨?_, rfl⟩
  rw [if_neg]
  intro e
  have h1 : a.toBitVec.getLsbD 31 = true := by
    rw [i_lt, z_int] at ha
    have h2 : a.toBitVec.msb = true := by
      rw [BitVec.msb_eq_toInt]
      exact decide_eq_true ha
    rw [BitVec.msb_eq_getLsbD_last] at h2
    exact h2
  have h3 := congrArg (fun z : Int32 => z.toBitVec.getLsbD 31) e
  have hb : (nI (2 ^ n - 1)).toBitVec.getLsbD 31 = false := by
    show (BitVec.ofNat 32 (2 ^ n - 1)).getLsbD 31 = false
    rw [BitVec.getLsbD_ofNat, big12 (all_lt hn) (by decide)]
    rfl
  simp only [Int32.toBitVec_and, Int32.toBitVec_xor, BitVec.getLsbD_and, BitVec.getLsbD_xor, h1, hb, Bool.true_and] at h3
  exact absurd h3 (by decide)
theorem is_set (hV : VN σ μ n w h d v k L) (a : Int32) : (∃ j, j < 2 ^ n ∧ a = nI j ∧ j.testBit d = false ∧ j_X2_isSet σ a = some 1 ∧ j_X6_isSet μ a = some 1) ∨ (j_X2_isSet σ a = some 0 ∧ j_X6_isSet μ a = some 0) := by
  have hn := hV.1.2.1
  have hd := hV.1.2.2.2.2.2.1
  by_cases ha : a < 0
  · exact Or.inr (set_neg hV.nv.1 hV.nv.2 hn ha)
  · obtain ⟨j, hj, rfl⟩ := nI_of ha
    rw [set_class hV.nv.1 hn hd hj, set_model hV.nv.2 hn hd hj]
    by_cases c : j < 2 ^ n ∧ j.testBit d = false
    · rw [if_pos c]
      exact Or.inl ⟨j, c.1, rfl, c.2, rfl, rfl⟩
    · rw [if_neg c]
      exact Or.inr ⟨rfl, rfl⟩
theorem n12 (hn : n ≤ 12) {j : Nat} (h : j < 2 ^ n) : j < 4096 := Nat.lt_of_lt_of_le h (Nat.pow_le_pow_right (n := 2) (by decide) hn)
theorem sim_crowded (hR : RR σ μ) (a : Int32) : ∃ r, j_X5_crowded σ a = some r ∧ j_X6_crowded μ a = some r := by
  obtain ⟨n, w, h, d, v, k, L, hV, -⟩ := hR
  have hn := hV.1.2.1
  unfold j_X5_crowded j_X6_crowded
  rcases is_set hV a with ⟨j, h1, rfl, h2, e1, e2⟩ | ⟨e1, e2⟩
  · obtain ⟨r, g1, g2, -⟩ := cr_rel (b := k) hV.nv.1 hV.nv.2 hn (n12 hn h1) (by have := hV.1.2.2.2.2.2.2.2.2; omega)
    simp only [e1, e2, dp_bd_some, i10, hV.2.1.2.2.2.2.2, hV.2.2.1.2.2.2.2.2, g1, g2]
    exact ⟨r, rfl, rfl⟩
  · simp only [e1, e2, dp_bd_some, i00]
    exact ⟨_, rfl, rfl⟩
theorem sim_reached (hR : RR σ μ) (a : Int32) : ∃ r, j_X5_reached σ a = some r ∧ j_X6_reached μ a = some r := by
  obtain ⟨n, w, h, d, v, k, L, hV, -⟩ := hR
  have hn := hV.1.2.1
  have hd := hV.1.2.2.2.2.2.1
  have hk := hV.1.2.2.2.2.2.2.2.2
  unfold j_X5_reached j_X6_reached
  rcases is_set hV a with ⟨j, h1, rfl, h2, e1, e2⟩ | ⟨e1, e2⟩
  · simp only [e1, e2, dp_bd_some, i10, hV.2.1.2.2.2.2.2, hV.2.2.1.2.2.2.2.2, sp_class hV.nv.1 hn (show d < 12 by omega) (n12 hn h1) (show k < 2 ^ 31 by omega), sp_model hV.nv.2 hn (show d < 12 by omega) (n12 hn h1) h2 (show k < 2 ^ 31 by omega)]
    exact ⟨_, rfl, rfl⟩
  · simp only [e1, e2, dp_bd_some, i00]
    exact ⟨_, rfl, rfl⟩
theorem sim_sort (hR : RR σ μ) (a : Int32) : ∃ r, j_X5_sort σ a = some r ∧ j_X6_sort μ a = some r := by
  obtain ⟨n, w, h, d, v, k, L, hV, -⟩ := hR
  have hn := hV.1.2.1
  have hd := hV.1.2.2.2.2.2.1
  have hk := hV.1.2.2.2.2.2.2.2.2
  unfold j_X5_sort j_X6_sort j_X2_isThin
  rcases is_set hV a with ⟨j, h1, rfl, h2, e1, e2⟩ | ⟨e1, e2⟩
  · obtain ⟨r, g1, g2, -⟩ := cr_rel (b := k) hV.nv.1 hV.nv.2 hn (n12 hn h1) (by omega)
    simp only [e1, e2, dp_bd_some, i10, hV.2.1.2.2.2.2.2, hV.2.2.1.2.2.2.2.2, g1, g2, cut_class hV.nv.1 hn (show d < 12 by omega) (n12 hn h1) (show k < 2 ^ 31 by omega), cut_model hV.nv.2 hn (show d < 12 by omega) (n12 hn h1) h2 (show k < 2 ^ 31 by omega)]
    by_cases c : r = -9
    · simp only [if_pos c, dp_bd_some, i10]
      by_cases c2 : nI (cutN n d L j k) = 0
      · simp only [if_pos c2]; exact ⟨_, rfl, rfl⟩
      · simp only [if_neg c2]; exact ⟨_, rfl, rfl⟩
    · simp only [if_neg c, dp_bd_some, i00]
      exact ⟨_, rfl, rfl⟩
  · simp only [e1, e2, dp_bd_some, i00]
    exact ⟨_, rfl, rfl⟩
theorem RR.cg (hR : RR σ μ) (h1 : ∀ k, k ≠ 9 → k ≠ 10 → k ≠ 11 → k ≠ 12 → σ'.1 k = σ.1 k) (h2 : σ'.2 = σ.2) (h3 : ∀ k, k ≠ 8 → k ≠ 9 → k ≠ 10 → μ'.1 k = μ.1 k) (h4 : μ'.2 = μ.2) : RR σ' μ' := by
  obtain ⟨n, w, h, d, v, k, L, hV, hS, hT, hC, hW, hL⟩ := hR
  have x : ∀ k, k < 9 → σ'.1 k = σ.1 k := fun k hk => h1 k (by omega) (by omega) (by omega) (by omega)
  have y : ∀ k, k < 8 → μ'.1 k = μ.1 k := fun k hk => h3 k (by omega) (by omega) (by omega)
  refine ⟨n, w, h, d, v, k, L, ?_, ?_, ?_, hC.cg (h1 13 (by decide) (by decide) (by decide) (by decide)) (h3 11 (by decide) (by decide) (by decide)) (by rw [h2]) (by rw [h4]), hW.cg (h1 15 (by decide) (by decide) (by decide) (by decide)) (h1 14 (by decide) (by decide) (by decide) (by decide)) (h3 12 (by decide) (by decide) (by decide)) (by rw [h2]) (by rw [h4]), hL.cg (h1 16 (by decide) (by decide) (by decide) (by decide)) (h3 13 (by decide) (by decide) (by decide)) (by rw [h2]) (by rw [h2]) (by rw [h2]) (by rw [h2]) (by rw [h4]) (by rw [h4]) (by rw [h4])⟩
  · unfold VN at hV ⊢
    rw [x 0 (by decide), x 1 (by decide), x 2 (by decide), x 3 (by decide), x 4 (by decide), x 5 (by decide), y 0 (by decide), y 1 (by decide), y 2 (by decide), y 3 (by decide), y 4 (by decide), y 5 (by decide), h2, h4]
    exact hV
  · unfold RS VS at hS ⊢
    rw [x 6 (by decide), y 6 (by decide), h2, h4]
    exact hS
  · unfold RT VT at hT ⊢
    rw [x 7 (by decide), x 8 (by decide), y 7 (by decide), h2, h4]
    exact hT
theorem pcn_zero {a : Nat} (ha : a < 4096) (h : pcn a = 0) : a = 0 := by
  refine Classical.byContradiction (fun z => ?_)
  have h1 : pcn 0 < pcn a := pcn_lt (fun i hi => by simp at hi) (fun e => z e.symm) ha
  omega
/-- the class's and the reference's walk over all sets -/
theorem tk_rel (hV : VN σ μ n w h d v k L) : ∃ σ' μ', j_X4_take σ = some σ' ∧ j_X6_triesSets μ (nI k) = some μ' ∧ (∀ k, k ≠ 9 → k ≠ 10 → k ≠ 11 → k ≠ 12 → σ'.1 k = σ.1 k) ∧ σ'.2 = σ.2 ∧ (∀ k, k ≠ 8 → k ≠ 9 → k ≠ 10 → μ'.1 k = μ.1 k) ∧ μ'.2 = μ.2 ∧ (∃ ws, ws < 4096 ∧ ws.testBit d = false ∧ σ'.1 9 = nI ws ∧ μ'.1 8 = nI ws ∧ σ'.1 10 = nI (cutN n d L ws k)) ∧ σ'.1 11 = μ'.1 9 ∧ σ'.1 12 = μ'.1 10 := by
  have hn := hV.1.2.1
  have hd := hV.1.2.2.2.2.2.1
  have hk1 := hV.1.2.2.2.2.2.2.2.1
  have hk := hV.1.2.2.2.2.2.2.2.2
  have hd12 : d < 12 := by omega
  have hkb : k < 2 ^ 31 := by omega
  have hp : 2 ^ n ≤ 4096 := Nat.pow_le_pow_right (n := 2) (by decide) hn
  have hp1 : 1 ≤ 2 ^ n := Nat.one_le_two_pow
  unfold j_X4_take j_X6_triesSets
  simp only [dp_bd_some]
  obtain ⟨r, q, e1, e2, he⟩ := dp_rel (b1 := jb_X4_take_22) (b2 := jb_X6_triesSets_17 (nI k))
    (fun t x y => (x.2 = nI t ∧ y.2 = nI t) ∧ ((∀ k, k ≠ 9 → k ≠ 10 → k ≠ 11 → k ≠ 12 → x.1.1 k = σ.1 k) ∧ x.1.2 = σ.2 ∧ (∀ k, k ≠ 8 → k ≠ 9 → k ≠ 10 → y.1.1 k = μ.1 k) ∧ y.1.2 = μ.2) ∧ (∃ ws, ws < 4096 ∧ ws.testBit d = false ∧ x.1.1 9 = nI ws ∧ y.1.1 8 = nI ws ∧ ((t = 0 ∧ ws = 0 ∧ x.1.1 10 = nI 0) ∨ (0 < t ∧ x.1.1 10 = nI (cutN n d L ws k)))) ∧ x.1.1 11 = y.1.1 9 ∧ x.1.1 12 = y.1.1 10)
    (fun r q => ((∀ k, k ≠ 9 → k ≠ 10 → k ≠ 11 → k ≠ 12 → r.1 k = σ.1 k) ∧ r.2 = σ.2 ∧ (∀ k, k ≠ 8 → k ≠ 9 → k ≠ 10 → q.1 k = μ.1 k) ∧ q.2 = μ.2) ∧ (∃ ws, ws < 4096 ∧ ws.testBit d = false ∧ r.1 9 = nI ws ∧ q.1 8 = nI ws ∧ r.1 10 = nI (cutN n d L ws k)) ∧ r.1 11 = q.1 9 ∧ r.1 12 = q.1 10) (2 ^ n) (by
    rintro t ⟨x, cx⟩ ⟨y, cy⟩ ht ⟨⟨rfl, rfl⟩, ⟨a1, a2, a3, a4⟩, ⟨ws, w1, w2, w3, w4, w5⟩, b1, b2⟩
    dsimp only at a1 a2 a3 a4 w3 w4 w5 b1 b2
    have hx : NV x n d L := ⟨by rw [a1 0 (by decide) (by decide) (by decide) (by decide)]; exact hV.nv.1.1, by rw [a1 3 (by decide) (by decide) (by decide) (by decide)]; exact hV.nv.1.2.1, by rw [a2]; exact hV.nv.1.2.2⟩
    have hy : NV y n d L := ⟨by rw [a3 0 (by decide) (by decide) (by decide)]; exact hV.nv.2.1, by rw [a3 3 (by decide) (by decide) (by decide)]; exact hV.nv.2.2.1, by rw [a4]; exact hV.nv.2.2.2⟩
    have x5 : x.1 5 = nI k := by rw [a1 5 (by decide) (by decide) (by decide) (by decide)]; exact hV.2.1.2.2.2.2.2
    unfold jb_X4_take_22 jb_X6_triesSets_17 j_X2_all
    dsimp only
    rw [hx.1, hy.1, hy.2.1, all_eq hn, mb_one n (by omega), dp_bd_some]
    by_cases c : t = 2 ^ n
    · subst c
      refine Or.inr ⟨x, y, if_pos (nI_lt (by omega) (by omega)), if_pos (nI_le (Nat.le_refl _) (by omega)), ⟨a1, a2, a3, a4⟩, ⟨ws, w1, w2, w3, w4, ?_⟩, b1, b2⟩
      rcases w5 with w5 | w5
      · omega
      · exact w5.2
    have ht2 : t < 2 ^ n := by omega
    have ht12 : t < 4096 := by omega
    rw [if_neg (nI_nlt (by omega) (by omega)), if_neg (nI_ge ht2 (by omega)), set_class hx hn hd (by omega), mb_has (by omega) (by omega), dp_bd_some, dp_bd_some]
    have no1 : jj_X4_take_64 x (nI t) = some (.inl (x, nI (t + 1))) := by unfold jj_X4_take_64; rw [nI_1]
    have no2 : ∀ z, jj_X6_triesSets_139 z (nI k) (nI t) = some (.inl (z, nI (t + 1))) := by intro z; unfold jj_X6_triesSets_139; rw [nI_1]
    have skip : 0 < t → (∃ x' y', (some (.inl (x, nI (t + 1))) : Option ((dp_Z × Int32) ⊕ dp_Z)) = some (.inl x') ∧ (some (.inl (y, nI (t + 1))) : Option ((dp_Z × Int32) ⊕ dp_Z)) = some (.inl y') ∧ t < 2 ^ n ∧ (x'.2 = nI (t + 1) ∧ y'.2 = nI (t + 1)) ∧ ((∀ k, k ≠ 9 → k ≠ 10 → k ≠ 11 → k ≠ 12 → x'.1.1 k = σ.1 k) ∧ x'.1.2 = σ.2 ∧ (∀ k, k ≠ 8 → k ≠ 9 → k ≠ 10 → y'.1.1 k = μ.1 k) ∧ y'.1.2 = μ.2) ∧ (∃ ws, ws < 4096 ∧ ws.testBit d = false ∧ x'.1.1 9 = nI ws ∧ y'.1.1 8 = nI ws ∧ ((t + 1 = 0 ∧ ws = 0 ∧ x'.1.1 10 = nI 0) ∨ (0 < t + 1 ∧ x'.1.1 10 = nI (cutN n d L ws k)))) ∧ x'.1.1 11 = y'.1.1 9 ∧ x'.1.1 12 = y'.1.1 10) := by
      intro h0
      refine ⟨_, _, rfl, rfl, ht2, ⟨rfl, rfl⟩, ⟨a1, a2, a3, a4⟩, ⟨ws, w1, w2, w3, w4, Or.inr ⟨by omega, ?_⟩⟩, b1, b2⟩
      rcases w5 with w5 | w5
      · omega
      · exact w5.2
    cases hz : t.testBit d with
    | true =>
      have h0 : 0 < t := by
        rcases Nat.eq_zero_or_pos t with z | z
        · subst z; simp at hz
        · exact z
      simp only [Bool.true_eq_false, and_false, if_false, i00, if_true, i10, no1, no2]
      exact Or.inl (skip h0)
    | false =>
      rw [if_pos (show t < 2 ^ n ∧ false = false from ⟨ht2, rfl⟩)]
      simp only [i10, Bool.false_eq_true, if_false, i00, if_true]
      unfold j_X2_isThin
      obtain ⟨rc, g1, g2, g3⟩ := cr_rel (b := k) hx hy hn ht12 hkb
      rw [x5, g1, g2, dp_bd_some, dp_bd_some]
      by_cases c9 : rc = -9
      rotate_left
      · have h0 : 0 < t := by
          rcases Nat.eq_zero_or_pos t with z | z
          · subst z
            refine absurd (g3.mpr (fun i _ _ => ?_)) c9
            rw [Nat.and_zero]
            have : pcn 0 = 0 := by decide
            omega
          · exact z
        simp only [if_neg c9, dp_bd_some, i00, no1, no2, if_true]
        exact Or.inl (skip h0)
      simp only [if_pos c9, dp_bd_some, i10]
      rw [cut_class hx hn hd12 ht12 hkb, dp_bd_some]
      have hy6 : NV (dp_sf y 9 (y.1 9 + 1)) n d L := hy
      rw [cut_model hy6 hn hd12 ht12 hz hkb, dp_bd_some]
      have hcl : cutN n d L t k < 4096 := cut_lt hn
      have hcw : cutN n d L ws k < 4096 := cut_lt hn
      -- the counts
      have key : ∀ (st : Int32) (x1 y1 : dp_Z), (x1 = dp_sf x 11 (x.1 11 + 1) ∧ st = 0 ∨ x1 = dp_sf (dp_sf x 11 (x.1 11 + 1)) 12 (x.1 12 + 1) ∧ st = 1) → y1 = dp_sf y 9 (y.1 9 + 1) → ∃ x' y', (dp_bd (jj_X4_weigh_24 x1 (nI t) (nI (cutN n d L t k))) fun x9 => jj_X4_take_64 x9 (nI t)) = some (.inl x') ∧ jj_X6_triesSets_78 y1 (nI k) (nI t) st (y1.1 10) = some (.inl y') ∧ t < 2 ^ n ∧ (x'.2 = nI (t + 1) ∧ y'.2 = nI (t + 1)) ∧ ((∀ k, k ≠ 9 → k ≠ 10 → k ≠ 11 → k ≠ 12 → x'.1.1 k = σ.1 k) ∧ x'.1.2 = σ.2 ∧ (∀ k, k ≠ 8 → k ≠ 9 → k ≠ 10 → y'.1.1 k = μ.1 k) ∧ y'.1.2 = μ.2) ∧ (∃ ws, ws < 4096 ∧ ws.testBit d = false ∧ x'.1.1 9 = nI ws ∧ y'.1.1 8 = nI ws ∧ ((t + 1 = 0 ∧ ws = 0 ∧ x'.1.1 10 = nI 0) ∨ (0 < t + 1 ∧ x'.1.1 10 = nI (cutN n d L ws k)))) ∧ x'.1.1 11 = y'.1.1 9 ∧ x'.1.1 12 = y'.1.1 10 := by
        intro st x1 y1 hx1 hy1
        have f9 : x1.1 9 = nI ws := by rcases hx1 with ⟨rfl, -⟩ | ⟨rfl, -⟩ <;> exact w3
        have f10 : x1.1 10 = x.1 10 := by rcases hx1 with ⟨rfl, -⟩ | ⟨rfl, -⟩ <;> rfl
        have f11 : x1.1 11 = y1.1 9 := by subst hy1; rcases hx1 with ⟨rfl, -⟩ | ⟨rfl, -⟩ <;> (show x.1 11 + 1 = y.1 9 + 1; rw [b1])
        have f12 : x1.1 12 = y1.1 10 + st := by
          subst hy1
          rcases hx1 with ⟨rfl, rfl⟩ | ⟨rfl, rfl⟩
          · show x.1 12 = y.1 10 + 0
            rw [b2, Int32.add_zero]
          · show x.1 12 + 1 = y.1 10 + 1
            rw [b2]
        have fk : ∀ k, k ≠ 9 → k ≠ 10 → k ≠ 11 → k ≠ 12 → x1.1 k = σ.1 k := by
          intro k h9 h10 h11 h12
          rcases hx1 with ⟨rfl, -⟩ | ⟨rfl, -⟩
          · rw [sf_ne h11]; exact a1 k h9 h10 h11 h12
          · rw [sf_ne h12, sf_ne h11]; exact a1 k h9 h10 h11 h12
        have f2 : x1.2 = σ.2 := by rcases hx1 with ⟨rfl, -⟩ | ⟨rfl, -⟩ <;> exact a2
        have gk : ∀ k, k ≠ 8 → k ≠ 9 → k ≠ 10 → y1.1 k = μ.1 k := by
          intro k h8 h9 h10
          subst hy1
          rw [sf_ne h9]; exact a3 k h8 h9 h10
        have g2' : y1.2 = μ.2 := by subst hy1; exact a4
        have g8 : y1.1 8 = nI ws := by subst hy1; exact w4
        have hy8 : NV (dp_sf y1 10 (y1.1 10 + st)) n d L := by subst hy1; exact hy
        have h8' : (dp_sf y1 10 (y1.1 10 + st)).1 8 = nI ws := by rw [sf_ne (by decide)]; exact g8
        -- what the worst cut's size is
        have hwc : ∃ cc, cc < 4096 ∧ x.1 10 = nI cc ∧ (cc = cutN n d L ws k ∨ (t = 0 ∧ ws = 0 ∧ cc = 0)) := by
          rcases w5 with ⟨z1, z2, z3⟩ | ⟨z1, z2⟩
          · exact ⟨0, by decide, z3, Or.inr ⟨z1, z2, rfl⟩⟩
          · exact ⟨_, hcw, z2, Or.inl rfl⟩
        obtain ⟨cc, hcc, ecc, hcc2⟩ := hwc
        unfold jj_X4_weigh_24 jj_X6_triesSets_78
        rw [mb_count _ hcl, f10, ecc, mb_count _ hcc, f9, mb_count _ w1, mb_count _ ht12]
        simp only [dp_bd_some]
        rw [cut_model hy8 hn hd12 ht12 hz hkb, h8', cut_model hy8 hn hd12 w1 w2 hkb]
        simp only [dp_bd_some]
        rw [mb_size (s31 hcl), mb_size (s31 hcw), mb_size (s31 ht12), mb_size (s31 w1)]
        simp only [dp_bd_some]
        have b1' := pcn_le (cutN n d L t k)
        have b2' := pcn_le cc
        have b3' := pcn_le ws
        have b4' := pcn_le t
        have b5' := pcn_le (cutN n d L ws k)
        have w64 : jj_X4_weigh_64 x1 (nI t) (nI (cutN n d L t k)) = some (dp_sf (dp_sf x1 9 (nI t)) 10 (nI (cutN n d L t k))) := rfl
        have m128 : jj_X6_triesSets_128 (dp_sf y1 10 (y1.1 10 + st)) (nI k) (nI t) = some (.inl (dp_sf (dp_sf y1 10 (y1.1 10 + st)) 8 (nI t), nI (t + 1))) := by
          unfold jj_X6_triesSets_128 jj_X6_triesSets_136
          rw [dp_bd_some, no2]
        have m132 : jj_X6_triesSets_132 (dp_sf y1 10 (y1.1 10 + st)) (nI k) (nI t) = some (.inl (dp_sf (dp_sf y1 10 (y1.1 10 + st)) 8 (nI ws), nI (t + 1))) := by
          unfold jj_X6_triesSets_132 jj_X6_triesSets_136
          rw [h8', dp_bd_some, no2]
        have no1' : ∀ z, jj_X4_take_64 z (nI t) = some (.inl (z, nI (t + 1))) := by intro z; unfold jj_X4_take_64; rw [nI_1]
        rw [w64, m128, m132]
        have change : ∃ x' y', (dp_bd (some (dp_sf (dp_sf x1 9 (nI t)) 10 (nI (cutN n d L t k)))) fun x9 => jj_X4_take_64 x9 (nI t)) = some (.inl x') ∧ (some (.inl (dp_sf (dp_sf y1 10 (y1.1 10 + st)) 8 (nI t), nI (t + 1))) : Option ((dp_Z × Int32) ⊕ dp_Z)) = some (.inl y') ∧ t < 2 ^ n ∧ (x'.2 = nI (t + 1) ∧ y'.2 = nI (t + 1)) ∧ ((∀ k, k ≠ 9 → k ≠ 10 → k ≠ 11 → k ≠ 12 → x'.1.1 k = σ.1 k) ∧ x'.1.2 = σ.2 ∧ (∀ k, k ≠ 8 → k ≠ 9 → k ≠ 10 → y'.1.1 k = μ.1 k) ∧ y'.1.2 = μ.2) ∧ (∃ ws, ws < 4096 ∧ ws.testBit d = false ∧ x'.1.1 9 = nI ws ∧ y'.1.1 8 = nI ws ∧ ((t + 1 = 0 ∧ ws = 0 ∧ x'.1.1 10 = nI 0) ∨ (0 < t + 1 ∧ x'.1.1 10 = nI (cutN n d L ws k)))) ∧ x'.1.1 11 = y'.1.1 9 ∧ x'.1.1 12 = y'.1.1 10 := by
          rw [dp_bd_some, no1']
          refine ⟨_, _, rfl, rfl, ht2, ⟨rfl, rfl⟩, ⟨fun k h9 h10 h11 h12 => ?_, f2, fun k h8 h9 h10 => ?_, g2'⟩, ⟨t, ht12, hz, ?_, sf_eq, Or.inr ⟨by omega, sf_eq⟩⟩, ?_, ?_⟩
          · dsimp only; rw [sf_ne h10, sf_ne h9]; exact fk k h9 h10 h11 h12
          · dsimp only; rw [sf_ne h8, sf_ne h10]; exact gk k h8 h9 h10
          · dsimp only; rw [sf_ne (by decide), sf_eq]
          · dsimp only; rw [sf_ne (by decide), sf_ne (by decide), sf_ne (by decide), sf_ne (by decide)]; exact f11
          · dsimp only; rw [sf_ne (by decide), sf_ne (by decide), sf_ne (by decide), sf_eq]; exact f12
        have stay : cc = cutN n d L ws k → ∃ x' y', (dp_bd (some x1) fun x9 => jj_X4_take_64 x9 (nI t)) = some (.inl x') ∧ (some (.inl (dp_sf (dp_sf y1 10 (y1.1 10 + st)) 8 (nI ws), nI (t + 1))) : Option ((dp_Z × Int32) ⊕ dp_Z)) = some (.inl y') ∧ t < 2 ^ n ∧ (x'.2 = nI (t + 1) ∧ y'.2 = nI (t + 1)) ∧ ((∀ k, k ≠ 9 → k ≠ 10 → k ≠ 11 → k ≠ 12 → x'.1.1 k = σ.1 k) ∧ x'.1.2 = σ.2 ∧ (∀ k, k ≠ 8 → k ≠ 9 → k ≠ 10 → y'.1.1 k = μ.1 k) ∧ y'.1.2 = μ.2) ∧ (∃ ws, ws < 4096 ∧ ws.testBit d = false ∧ x'.1.1 9 = nI ws ∧ y'.1.1 8 = nI ws ∧ ((t + 1 = 0 ∧ ws = 0 ∧ x'.1.1 10 = nI 0) ∨ (0 < t + 1 ∧ x'.1.1 10 = nI (cutN n d L ws k)))) ∧ x'.1.1 11 = y'.1.1 9 ∧ x'.1.1 12 = y'.1.1 10 := by
          intro hce
          rw [dp_bd_some, no1']
          refine ⟨_, _, rfl, rfl, ht2, ⟨rfl, rfl⟩, ⟨fk, f2, fun k h8 h9 h10 => ?_, g2'⟩, ⟨ws, w1, w2, f9, sf_eq, Or.inr ⟨by omega, ?_⟩⟩, ?_, ?_⟩
          · dsimp only; rw [sf_ne h8, sf_ne h10]; exact gk k h8 h9 h10
          · dsimp only; rw [f10, ecc, hce]
          · dsimp only; rw [sf_ne (by decide), sf_ne (by decide)]; exact f11
          · dsimp only; rw [sf_ne (by decide), sf_eq]; exact f12
        rcases hcc2 with hce | ⟨rfl, rfl, rfl⟩
        · rw [hce]
          by_cases p1 : pcn (cutN n d L ws k) < pcn (cutN n d L t k)
          · simp only [if_pos ((d_pos (show pcn (cutN n d L t k) < 2 ^ 30 by omega) (show pcn (cutN n d L ws k) < 2 ^ 30 by omega)).mpr p1)]
            exact change
          · simp only [if_neg (fun z => p1 ((d_pos (show pcn (cutN n d L t k) < 2 ^ 30 by omega) (show pcn (cutN n d L ws k) < 2 ^ 30 by omega)).mp z))]
            by_cases p2 : pcn (cutN n d L t k) = pcn (cutN n d L ws k)
            · simp only [if_pos ((d_zero (show pcn (cutN n d L t k) < 2 ^ 30 by omega) (show pcn (cutN n d L ws k) < 2 ^ 30 by omega)).mpr p2)]
              by_cases p3 : pcn ws ≤ pcn t
              · simp only [if_pos ((d_le (show pcn ws < 2 ^ 30 by omega) (show pcn t < 2 ^ 30 by omega)).mpr p3), if_pos (nI_le p3 (show pcn t < 2 ^ 31 by omega))]
                exact stay hce
              · simp only [if_neg (fun z => p3 ((d_le (show pcn ws < 2 ^ 30 by omega) (show pcn t < 2 ^ 30 by omega)).mp z)), if_neg (nI_ge (show pcn t < pcn ws by omega) (show pcn ws < 2 ^ 31 by omega))]
                exact change
            · simp only [if_neg (fun z => p2 ((d_zero (show pcn (cutN n d L t k) < 2 ^ 30 by omega) (show pcn (cutN n d L ws k) < 2 ^ 30 by omega)).mp z))]
              exact stay hce
        · -- the first set: the empty one
          have e0 : ¬ (0 < nI (pcn (cutN n d L 0 k)) - nI (pcn (cutN n d L 0 k))) := fun z => absurd ((d_pos (show pcn (cutN n d L 0 k) < 2 ^ 30 by omega) (show pcn (cutN n d L 0 k) < 2 ^ 30 by omega)).mp z) (by omega)
          have e1 : nI (pcn (cutN n d L 0 k)) - nI (pcn (cutN n d L 0 k)) = 0 := (d_zero (show pcn (cutN n d L 0 k) < 2 ^ 30 by omega) (show pcn (cutN n d L 0 k) < 2 ^ 30 by omega)).mpr rfl
          have p0 : pcn 0 = 0 := by decide
          simp only [if_neg e0, if_pos e1, if_pos (nI_le (Nat.le_refl (pcn 0)) (show pcn 0 < 2 ^ 31 by omega))]
          by_cases p1 : 0 < pcn (cutN n d L 0 k)
          · simp only [if_pos ((d_pos (show pcn (cutN n d L 0 k) < 2 ^ 30 by omega) (show pcn 0 < 2 ^ 30 by omega)).mpr (by omega))]
            exact change
          · have hc0 : (0 : Nat) = cutN n d L 0 k := (pcn_zero hcl (by omega)).symm
            simp only [if_neg (fun z => p1 (by have := (d_pos (show pcn (cutN n d L 0 k) < 2 ^ 30 by omega) (show pcn 0 < 2 ^ 30 by omega)).mp z; omega)), if_pos ((d_zero (show pcn (cutN n d L 0 k) < 2 ^ 30 by omega) (show pcn 0 < 2 ^ 30 by omega)).mpr (by omega)), if_pos ((d_le (show pcn 0 < 2 ^ 30 by omega) (show pcn 0 < 2 ^ 30 by omega)).mpr (Nat.le_refl _))]
            exact stay hc0
      unfold j_X4_weigh
      rw [dp_bd_some]
      by_cases c0 : nI (cutN n d L t k) = 0
      · simp only [if_pos c0]
        exact Or.inl (key 0 _ _ (Or.inl ⟨rfl, rfl⟩) rfl)
      · simp only [if_neg c0, dp_bd_some]
        exact Or.inl (key 1 _ _ (Or.inr ⟨rfl, rfl⟩) rfl)) dp_F 0 (dp_sf (dp_sf (dp_sf (dp_sf σ 9 0) 10 0) 11 0) 12 0, 0) (dp_sf (dp_sf (dp_sf μ 8 0) 9 0) 10 0, 0) (Nat.zero_le _) (dp_F_lt (by omega) 0) ⟨⟨rfl, rfl⟩, ⟨fun k h9 h10 h11 h12 => by dsimp only; rw [sf_ne h12, sf_ne h11, sf_ne h10, sf_ne h9], rfl, fun k h8 h9 h10 => by dsimp only; rw [sf_ne h10, sf_ne h9, sf_ne h8], rfl⟩, ⟨0, by decide, by simp, rfl, rfl, Or.inl ⟨rfl, rfl, rfl⟩⟩, rfl, rfl⟩
  rw [e1, e2]
  exact ⟨r, q, by rw [dp_bd_some], by rw [dp_bd_some], he.1.1, he.1.2.1, he.1.2.2.1, he.1.2.2.2, he.2.1, he.2.2.1, he.2.2.2⟩
theorem sim_worst (hR : RR σ μ) (a : Int32) : ∃ r σ' μ', j_X5_worst σ a = some (r, σ') ∧ j_X6_worst μ a = some (r, μ') ∧ RR σ' μ' := by
  have hR0 := hR
  obtain ⟨n, w, h, d, v, k, L, hV, -⟩ := hR
  have hn := hV.1.2.1
  have hd := hV.1.2.2.2.2.2.1
  have hk := hV.1.2.2.2.2.2.2.2.2
  unfold j_X5_worst j_X6_worst
  rcases wi a 0 3 (by decide) (by decide) with ⟨i, h1, h2, rfl, h4⟩ | ⟨h1, h2⟩
  · rw [show j_X6_within (nI i) 0 3 = some 1 from h4, dp_bd_some, i10, if_neg (show ¬ nI i < (0 : Int32) from nI_pos (by omega)), if_pos (show nI i ≤ (3 : Int32) from nI_le (b := 3) h2 (by decide)), hV.2.2.1.2.2.2.2.2]
    obtain ⟨σ', μ', e1, e2, g1, g2, g3, g4, ⟨ws, w1, w2, w3, w4, w5⟩, g6, g7⟩ := tk_rel hV
    have hR' : RR σ' μ' := hR0.cg g1 g2 g3 g4
    rw [e1, e2, dp_bd_some, dp_bd_some]
    have hm' : NV μ' n d L := ⟨by rw [g3 0 (by decide) (by decide) (by decide)]; exact hV.nv.2.1, by rw [g3 3 (by decide) (by decide) (by decide)]; exact hV.nv.2.2.1, by rw [g4]; exact hV.nv.2.2.2⟩
    have h5 : μ'.1 5 = nI k := by rw [g3 5 (by decide) (by decide) (by decide)]; exact hV.2.2.1.2.2.2.2.2
    rw [w4, h5, cut_model hm' hn (show d < 12 by omega) w1 w2 (show k < 2 ^ 31 by omega), dp_bd_some, w3, w5, g6, g7]
    rcases (show i = 0 ∨ i = 1 ∨ i = 2 ∨ i = 3 by omega) with rfl | rfl | rfl | rfl
    · exact ⟨nI ws, σ', μ', rfl, rfl, hR'⟩
    · exact ⟨nI (cutN n d L ws k), σ', μ', rfl, rfl, hR'⟩
    · exact ⟨μ'.1 9, σ', μ', rfl, rfl, hR'⟩
    · exact ⟨μ'.1 10, σ', μ', rfl, rfl, hR'⟩
  · rw [show j_X6_within a 0 3 = some 0 from h2, dp_bd_some, i00]
    refine ⟨-2, σ, μ, ?_, rfl, hR0⟩
    rcases h1 with h1 | h1
    · rw [if_pos (show a < (0 : Int32) from h1)]
    · have := up_lt (lo := 0) (by decide) (by decide) h1
      rw [if_neg (show ¬ a < (0 : Int32) from this.1), if_neg (show ¬ a ≤ (3 : Int32) from this.2)]
end WS
