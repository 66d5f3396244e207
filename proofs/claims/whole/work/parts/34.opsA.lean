/-! ===== 34: the calls that set the net (but net and grid) ===== -/
theorem i10 {α : Type} (A B : α) : (if (1 : Int32) = 0 then A else B) = B := if_neg (by decide)
theorem i00 {α : Type} (A B : α) : (if (0 : Int32) = 0 then A else B) = A := if_pos rfl
theorem i_lt {x y : Int32} : x < y ↔ x.toInt < y.toInt := Int32.lt_iff_toInt_lt
theorem i_le {x y : Int32} : x ≤ y ↔ x.toInt ≤ y.toInt := Int32.le_iff_toInt_le
theorem i_ge {x y : Int32} (h : ¬ x < y) : y ≤ x := by rw [i_lt] at h; rw [i_le]; omega
theorem i_gt {x y : Int32} (h : x < y) : ¬ y ≤ x := by rw [i_lt] at h; rw [i_le]; omega
theorem wi (a : Int32) (lo hi : Nat) (hl : lo < 2 ^ 31) (hh : hi < 2 ^ 31) : (∃ i, lo ≤ i ∧ i ≤ hi ∧ a = nI i ∧ j_X6_within a (nI lo) (nI hi) = some 1) ∨ ((a < nI lo ∨ nI hi < a) ∧ j_X6_within a (nI lo) (nI hi) = some 0) := by
  unfold j_X6_within
  by_cases c1 : a < nI lo
  · rw [if_pos c1]
    exact Or.inr ⟨Or.inl c1, rfl⟩
  rw [if_neg c1]
  by_cases c2 : nI hi < a
  · rw [if_pos c2]
    exact Or.inr ⟨Or.inr c2, rfl⟩
  rw [if_neg c2]
  rw [i_lt, nI_toInt hl] at c1
  rw [i_lt, nI_toInt hh] at c2
  have h0 : ¬ a < 0 := by
    rw [i_lt]
    have : (0 : Int32).toInt = 0 := by decide
    omega
  obtain ⟨j, hj, rfl⟩ := nI_of h0
  rw [nI_toInt hj] at c1 c2
  exact Or.inl ⟨j, by omega, by omega, rfl, rfl⟩
/-- above: not below, nor at -/
theorem up_lt {a : Int32} {lo hi : Nat} (hh : hi < 2 ^ 31) (hl : lo ≤ hi + 1) (h : nI hi < a) : ¬ a < nI lo ∧ ¬ a ≤ nI hi := by
  rw [i_lt, nI_toInt hh] at h
  rw [i_lt, i_le, nI_toInt hh]
  have : (nI lo).toInt ≤ (hi : Int) + 1 := by
    rcases Nat.lt_or_ge lo (2 ^ 31) with z | z
    · rw [nI_toInt z]; omega
    · have : lo = 2 ^ 31 := by omega
      subst this
      have : (nI (2 ^ 31)).toInt = -2147483648 := by decide
      omega
  omega
section OA
variable {σ σ' μ μ' : dp_Z} {n w h d v k : Nat} {L : Nat → Nat}
theorem RC.cg (hV : RC σ μ) (h1 : σ'.1 13 = σ.1 13) (h2 : μ'.1 11 = μ.1 11) (h3 : σ'.2 6 = σ.2 6) (h4 : μ'.2 7 = μ.2 7) : RC σ' μ' := by
  unfold RC VC at hV ⊢
  rw [h1, h2, h3, h4]
  exact hV
theorem RW.cg (hV : RW σ μ d) (h1 : σ'.1 15 = σ.1 15) (h2 : σ'.1 14 = σ.1 14) (h3 : μ'.1 12 = μ.1 12) (h4 : σ'.2 7 = σ.2 7) (h5 : μ'.2 8 = μ.2 8) : RW σ' μ' d := by
  unfold RW VW at hV ⊢
  rw [h1, h2, h3, h4, h5]
  exact hV
theorem RL.cg (hV : RL σ μ d) (h1 : σ'.1 16 = σ.1 16) (h2 : μ'.1 13 = μ.1 13) (h3 : σ'.2 8 = σ.2 8) (h4 : σ'.2 9 = σ.2 9) (h5 : σ'.2 10 = σ.2 10) (h6 : σ'.2 11 = σ.2 11) (h7 : μ'.2 9 = μ.2 9) (h8 : μ'.2 10 = μ.2 10) (h9 : μ'.2 11 = μ.2 11) : RL σ' μ' d := by
  unfold RL VL at hV ⊢
  rw [h1, h2, h3, h4, h5, h6, h7, h8, h9]
  exact hV
theorem RW.nil (h1 : σ.1 15 = 0) (h2 : σ.1 14 = 0) (h3 : μ.1 12 = 0) : RW σ μ d := ⟨0, 0, fun _ => 0, ⟨by decide, by decide, h1, h3, h2⟩, fun i hi => absurd hi (Nat.not_lt_zero i), fun i j _ hj => absurd hj (Nat.not_lt_zero j), fun b => by simp, fun z => absurd z (Nat.not_lt_zero 0)⟩
theorem RL.nil (h1 : σ.1 16 = 0) (h2 : μ.1 13 = 0) : RL σ μ d := ⟨0, fun _ => 0, fun _ => 0, fun _ => 0, fun _ => 0, ⟨by decide, h1, h2⟩, fun k hk => absurd hk (Nat.not_lt_zero k)⟩
theorem in_node (hV : VN σ μ n w h d v k L) (a : Int32) : (∃ i, i < n ∧ a = nI i ∧ j_X2_has σ a = some 1 ∧ j_X6_isNode μ a = some 1) ∨ (j_X2_has σ a = some 0 ∧ j_X6_isNode μ a = some 0) := by
  obtain ⟨⟨n1, n2, -⟩, ⟨x0, -⟩, ⟨y0, -⟩, -⟩ := hV
  unfold j_X2_has j_X6_isNode
  rw [x0, y0]
  have e : nI n - 1 = nI (n - 1) := pk_sub (b := 1) (by omega)
  rw [e]
  rcases wi a 0 (n - 1) (by decide) (by omega) with ⟨i, h1, h2, rfl, h4⟩ | ⟨h1, h2⟩
  · left
    refine ⟨i, by omega, rfl, ?_, ?_⟩
    · rw [if_neg (nI_pos (by omega)), if_neg (nI_ge (by omega) (by omega))]
    · rw [show (0 : Int32) = nI 0 from rfl, h4]; rfl
  · right
    rw [show (0 : Int32) = nI 0 from rfl, h2]
    refine ⟨?_, rfl⟩
    rcases h1 with h1 | h1
    · rw [if_pos h1]
    · have := up_lt (lo := 0) (by omega) (by omega) h1
      rw [if_neg this.1, if_pos]
      rw [i_lt, nI_toInt (by omega)] at h1
      rw [i_le, nI_toInt (by omega)]
      omega
theorem in_val (a : Int32) : (∃ i, i < 4 ∧ a = nI i ∧ j_X5_isValue a = some 1 ∧ j_X6_within a 0 3 = some 1) ∨ ((∀ i, i < 4 → a ≠ nI i) ∧ j_X5_isValue a = some 0 ∧ j_X6_within a 0 3 = some 0) := by
  unfold j_X5_isValue
  rcases wi a 0 3 (by decide) (by decide) with ⟨i, h1, h2, rfl, h4⟩ | ⟨h1, h2⟩
  · left
    refine ⟨i, by omega, rfl, ?_, h4⟩
    rw [if_neg (nI_pos (by omega)), if_neg (show ¬ (4 : Int32) ≤ nI i from nI_ge (b := 4) (by omega) (by decide))]
  · right
    refine ⟨?_, ?_, h2⟩
    · rintro i hi rfl
      rcases h1 with h1 | h1
      · exact nI_pos (by omega) h1
      · exact nI_nlt (by omega) (by omega) h1
    · rcases h1 with h1 | h1
      · rw [show (0 : Int32) = nI 0 from rfl, if_pos h1]
      · have := up_lt (lo := 0) (by decide) (by decide) h1
        rw [show (0 : Int32) = nI 0 from rfl, if_neg this.1, if_pos]
        rw [i_lt] at h1
        rw [i_le]
        have e1 : (nI 3).toInt = 3 := by decide
        have e2 : (4 : Int32).toInt = 4 := by decide
        omega
theorem sim_begin (hR : RR σ μ) : ∃ r σ' μ', j_X5_begin σ = some (r, σ') ∧ j_X6_begin μ = some (r, μ') ∧ RR σ' μ' := by
  obtain ⟨n, w, h, d, v, k, L, hV, hS, ⟨sp, hd, hT⟩, hC, hW, hL⟩ := hR
  obtain ⟨σ', μ', e1, e2, hV', hS', hT', hX, hM⟩ := sim_restart hV
  refine ⟨σ.1 7, σ', μ', ?_, ?_, n, w, h, d, v, k, L, hV', hS', hT', hC.keep hX hM, hW.keep hX hM, hL.keep hX hM⟩
  · unfold j_X5_begin; rw [e1]; rfl
  · unfold j_X6_begin; rw [e2, ← hT.1]; rfl
theorem sim_need (hR : RR σ μ) (a : Int32) : ∃ r σ' μ', j_X5_need σ a = some (r, σ') ∧ j_X6_need μ a = some (r, μ') ∧ RR σ' μ' := by
  have hR0 := hR
  obtain ⟨n, w, h, d, v, k, L, hV, hS, hT, hC, hW, hL⟩ := hR
  unfold j_X5_need j_X6_need
  rcases wi a 1 6 (by decide) (by decide) with ⟨i, h1, h2, rfl, h4⟩ | ⟨h1, h2⟩
  · rw [if_neg (show ¬ nI i < (1 : Int32) from nI_nlt (b := 1) h1 (by omega)), if_pos (show nI i ≤ (6 : Int32) from nI_le (b := 6) h2 (by decide)), show (1 : Int32) = nI 1 from rfl, show (6 : Int32) = nI 6 from rfl, h4]
    have hV1 : VN (dp_sf σ 5 (nI i)) (dp_sf μ 5 (nI i)) n w h d v i L := by
      obtain ⟨⟨n1, n2, w1, h1', wh, dn, v4, k1, k6⟩, ⟨x0, x1, x2, x3, x4, x5⟩, ⟨y0, y1, y2, y3, y4, y5⟩, hLl, hl⟩ := hV
      exact ⟨⟨n1, n2, w1, h1', wh, dn, v4, h1, h2⟩, ⟨x0, x1, x2, x3, x4, rfl⟩, ⟨y0, y1, y2, y3, y4, rfl⟩, hLl, hl⟩
    obtain ⟨σ', μ', e1, e2, hV', hS', hT', hX, hM⟩ := sim_restart hV1
    refine ⟨σ.1 5, σ', μ', ?_, ?_, n, w, h, d, v, i, L, hV', hS', hT', (hC.cg rfl rfl rfl rfl : RC (dp_sf σ 5 (nI i)) (dp_sf μ 5 (nI i))).keep hX hM, (hW.cg rfl rfl rfl rfl rfl : RW (dp_sf σ 5 (nI i)) (dp_sf μ 5 (nI i)) d).keep hX hM, (hL.cg rfl rfl rfl rfl rfl rfl rfl rfl rfl : RL (dp_sf σ 5 (nI i)) (dp_sf μ 5 (nI i)) d).keep hX hM⟩
    · rw [dp_bd_some, e1]; rfl
    · rw [dp_bd_some, if_neg (by decide), dp_bd_some, e2, dp_bd_some, hV.2.1.2.2.2.2.2, hV.2.2.1.2.2.2.2.2]
  · refine ⟨-2, σ, μ, ?_, ?_, hR0⟩
    · rcases h1 with h1 | h1
      · rw [if_pos (show a < (1 : Int32) from h1)]
      · have := up_lt (lo := 1) (by decide) (by decide) h1
        rw [if_neg (show ¬ a < (1 : Int32) from this.1), if_neg (show ¬ a ≤ (6 : Int32) from this.2)]
    · rw [show (1 : Int32) = nI 1 from rfl, show (6 : Int32) = nI 6 from rfl, h2]; rfl
theorem VN.lies (hV : VN σ μ n w h d v k L) (i : Nat) {x : Int32} (hx : x = -9 ∨ ∃ a, a ≤ 4 ∧ x = nI a) : VN (dp_sr σ 1 (upd (σ.2 1) i x)) (dp_sr μ 1 (upd (μ.2 1) i x)) n w h d v k L := by
  obtain ⟨hb, hx0, hy0, hLl, hl⟩ := hV
  refine ⟨hb, hx0, hy0, hLl, fun j hj => ?_⟩
  rw [sr_eq, sr_eq]
  by_cases z : j = i
  · subst z
    rw [up_eq, up_eq]
    exact ⟨rfl, hx⟩
  · rw [up_ne z, up_ne z]
    exact hl j hj
theorem sim_lie (hR : RR σ μ) (a b : Int32) : ∃ r σ' μ', j_X5_lie σ a b = some (r, σ') ∧ j_X6_lie μ a b = some (r, μ') ∧ RR σ' μ' := by
  have hR0 := hR
  obtain ⟨n, w, h, d, v, k, L, hV, hS, hT, hC, hW, hL⟩ := hR
  have hV0 := hV
  obtain ⟨⟨n1, n2, -, -, -, dn, -⟩, ⟨-, -, -, x3, -⟩, ⟨-, -, -, y3, -⟩, -, hl⟩ := hV0
  unfold j_X5_lie j_X6_lie
  rcases in_node hV a with ⟨i, hi, rfl, e1, e2⟩ | ⟨e1, e2⟩
  · simp only [e1, e2, dp_bd_some, i10]
    have key : (b = -9 ∨ ∃ a, a ≤ 4 ∧ b = nI a) → ∃ r σ' μ', jj_X5_lie_34 σ (nI i) b = some (r, σ') ∧ jj_X6_lie_28 μ (nI i) b = some (r, μ') ∧ RR σ' μ' := by
      intro hb
      unfold jj_X5_lie_34 jj_X6_lie_28
      rw [x3, y3]
      by_cases c : i = d
      · subst c
        exact ⟨-3, σ, μ, if_pos rfl, if_pos rfl, hR0⟩
      · have hne : ¬ nI i = nI d := fun z => c (nI_inj (by omega) (by omega) z)
        have hin : dp_inb (nI i) 12 = true := dp_inb_nI (by omega) (by decide)
        have hcl : (nI i).toNatClampNeg = i := nI_clamp (by omega)
        simp only [if_neg hne, if_pos hin, hcl, dp_bd_some]
        obtain ⟨σ', μ', g1, g2, hV', hS', hT', hX, hM⟩ := sim_restart (hV.lies i hb)
        refine ⟨σ.2 1 i, σ', μ', ?_, ?_, n, w, h, d, v, k, L, hV', hS', hT', (hC.cg rfl rfl rfl rfl : RC (dp_sr σ 1 _) (dp_sr μ 1 _)).keep hX hM, (hW.cg rfl rfl rfl rfl rfl : RW (dp_sr σ 1 _) (dp_sr μ 1 _) d).keep hX hM, (hL.cg rfl rfl rfl rfl rfl rfl rfl rfl rfl : RL (dp_sr σ 1 _) (dp_sr μ 1 _) d).keep hX hM⟩
        · rw [g1]; rfl
        · rw [g2, ← (hl i (by omega)).1]; rfl
    rcases in_val b with ⟨q, hq, rfl, f1, f2⟩ | ⟨f0, f1, f2⟩
    · simp only [f1, dp_bd_some, i10, if_neg (ne9 (show q < 2 ^ 31 by omega))]
      obtain ⟨r, σ', μ', g1, g2, g3⟩ := key (Or.inr ⟨q, by omega, rfl⟩)
      refine ⟨r, σ', μ', g1, ?_, g3⟩
      rcases wi (nI q) 0 4 (by decide) (by decide) with ⟨_, _, _, _, h4⟩ | ⟨h1, _⟩
      · rw [show j_X6_within (nI q) 0 4 = some 1 from h4, dp_bd_some, i10]
        exact g2
      · rcases h1 with h1 | h1
        · exact absurd h1 (nI_pos (by omega))
        · exact absurd h1 (nI_nlt (by omega) (by omega))
    · simp only [f1, dp_bd_some, i00]
      by_cases c9 : b = -9
      · have c4 : ¬ b = 4 := by rw [c9]; decide
        simp only [if_pos c9, if_neg c4]
        exact key (Or.inl c9)
      · simp only [if_neg c9]
        rcases wi b 0 4 (by decide) (by decide) with ⟨q, h1, h2, rfl, h4⟩ | ⟨h1, h2⟩
        · have hq : q = 4 := by
            rcases Nat.lt_or_ge q 4 with z | z
            · exact absurd rfl (f0 q z)
            · omega
          subst hq
          rw [show j_X6_within (nI 4) 0 4 = some 1 from h4]
          simp only [dp_bd_some, i10, if_pos (show nI 4 = (4 : Int32) from rfl)]
          obtain ⟨r, σ', μ', g1, g2, g3⟩ := key (Or.inr ⟨4, by omega, rfl⟩)
          exact ⟨r, σ', μ', g1, g2, g3⟩
        · have c4 : ¬ b = 4 := by
            rintro rfl
            rcases h1 with h1 | h1
            · exact absurd h1 (by decide)
            · exact absurd h1 (by decide)
          rw [show j_X6_within b 0 4 = some 0 from h2]
          simp only [dp_bd_some, i00, if_neg c4]
          exact ⟨-2, σ, μ, rfl, rfl, hR0⟩
  · simp only [e1, e2, dp_bd_some, i00]
    exact ⟨-1, σ, μ, rfl, rfl, hR0⟩
theorem x_forget (s : dp_Z) : j_X0_forget s = some (dp_sf (dp_sf (dp_sf s 15 0) 14 0) 16 0) := rfl
theorem sim_forget (hV : VN σ μ n w h d v k L) (hC : RC σ μ) : ∃ σ' μ', j_X3_restart (dp_sf (dp_sf (dp_sf σ 15 0) 14 0) 16 0) = some σ' ∧ j_X6_forgets μ = some μ' ∧ RR σ' μ' := by
  have hV1 : VN (dp_sf (dp_sf (dp_sf σ 15 0) 14 0) 16 0) (dp_sf (dp_sf μ 12 0) 13 0) n w h d v k L := hV
  obtain ⟨σ', μ', e1, e2, hV', hS', hT', hX, hM⟩ := sim_restart hV1
  refine ⟨σ', μ', e1, ?_, n, w, h, d, v, k, L, hV', hS', hT', (hC.cg rfl rfl rfl rfl : RC (dp_sf (dp_sf (dp_sf σ 15 0) 14 0) 16 0) (dp_sf (dp_sf μ 12 0) 13 0)).keep hX hM, (RW.nil rfl rfl rfl : RW (dp_sf (dp_sf (dp_sf σ 15 0) 14 0) 16 0) (dp_sf (dp_sf μ 12 0) 13 0) d).keep hX hM, (RL.nil rfl rfl : RL (dp_sf (dp_sf (dp_sf σ 15 0) 14 0) 16 0) (dp_sf (dp_sf μ 12 0) 13 0) d).keep hX hM⟩
  unfold j_X6_forgets
  rw [dp_bd_some, dp_bd_some, e2]
  rfl
theorem sim_dealer (hR : RR σ μ) (a b : Int32) : ∃ r σ' μ', j_X5_dealer σ a b = some (r, σ') ∧ j_X6_dealer μ a b = some (r, μ') ∧ RR σ' μ' := by
  have hR0 := hR
  obtain ⟨n, w, h, d, v, k, L, hV, hS, hT, hC, hW, hL⟩ := hR
  have hV0 := hV
  obtain ⟨⟨n1, n2, w1, h1, wh, dn, v4, k1, k6⟩, ⟨x0, x1, x2, x3, x4, x5⟩, ⟨y0, y1, y2, y3, y4, y5⟩, hLl, hl⟩ := hV0
  unfold j_X5_dealer j_X6_dealer
  rcases in_node hV a with ⟨i, hi, rfl, e1, e2⟩ | ⟨e1, e2⟩
  · simp only [e1, e2, dp_bd_some, i10]
    rcases in_val b with ⟨q, hq, rfl, f1, f2⟩ | ⟨f0, f1, f2⟩
    · have hin : dp_inb (nI i) 12 = true := dp_inb_nI (by omega) (by decide)
      have hcl : (nI i).toNatClampNeg = i := nI_clamp (by omega)
      simp only [f1, f2, i10, dp_bd_some, if_pos hin, hcl, x_forget]
      have hV1 : VN (dp_sf (dp_sf σ 3 (nI i)) 4 (nI q)) (dp_sf (dp_sf μ 3 (nI i)) 4 (nI q)) n w h i q k L := ⟨⟨n1, n2, w1, h1, wh, hi, hq, k1, k6⟩, ⟨x0, x1, x2, rfl, rfl, x5⟩, ⟨y0, y1, y2, rfl, rfl, y5⟩, hLl, hl⟩
      obtain ⟨σ', μ', g1, g2, g3⟩ := sim_forget (hV1.lies i (Or.inl rfl)) (hC.cg rfl rfl rfl rfl)
      refine ⟨σ.1 3, σ', μ', ?_, ?_, g3⟩
      · rw [g1]; rfl
      · rw [g2, x3, y3]; rfl
    · simp only [f1, f2, dp_bd_some, i00]
      exact ⟨-2, σ, μ, rfl, rfl, hR0⟩
  · simp only [e1, e2, dp_bd_some, i00]
    exact ⟨-1, σ, μ, rfl, rfl, hR0⟩
end OA
