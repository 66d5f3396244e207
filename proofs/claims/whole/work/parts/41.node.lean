/-! ===== 41: what a node is asked ===== -/
section ND
variable {σ σ' μ μ' : dp_Z} {n w h d v k sp : Nat} {L hd : Nat → Nat} {i s u c : Nat}
theorem hall_rel (hT : VT σ μ sp hd) (hi : i < 12) : ∃ r, j_X3_heardInAll σ (nI i) = some r ∧ j_X6_heardBy μ (nI i) = some r := by
  unfold j_X3_heardInAll j_X6_heardBy
  obtain ⟨r, q, f1, f2, he⟩ := dp_rel (b1 := jb_X3_heardInAll_4 σ (nI i)) (b2 := jb_X6_heardBy_4 μ (nI i)) (fun j x y => x = y ∧ x.2 = nI j) (fun r q => r = q) 4 (by
    rintro j ⟨t, ix⟩ ⟨t', iy⟩ hj ⟨p1, p2⟩
    simp only [Prod.mk.injEq] at p1 p2
    obtain ⟨rfl, rfl⟩ := p1
    subst p2
    unfold jb_X3_heardInAll_4 jb_X6_heardBy_4 j_X3_heardOf
    dsimp only
    by_cases ce : j = 4
    · subst ce
      exact Or.inr ⟨_, _, if_pos (nI_le (a := 4) (Nat.le_refl _) (by decide)), if_pos (nI_le (a := 4) (Nat.le_refl _) (by decide)), rfl⟩
    have e1 : nI i * 4 + nI j = nI (4 * i + j) := by rw [show (4 : Int32) = nI 4 from rfl, pk_mul, nI_add, Nat.mul_comm]
    have e2 : 4 * nI i + nI j = nI (4 * i + j) := by rw [show (4 : Int32) = nI 4 from rfl, pk_mul, nI_add]
    have h4 := hT.2.2.2 (4 * i + j) (by omega)
    rw [if_neg (show ¬ (4 : Int32) ≤ nI j from nI_ge (b := 4) (by omega) (by decide)), if_neg (show ¬ (4 : Int32) ≤ nI j from nI_ge (b := 4) (by omega) (by decide)), e1, e2, if_pos (dp_inb_nI (by omega) (by decide)), if_pos (dp_inb_nI (by omega) (by decide)), nI_clamp (by omega), dp_bd_some, h4.2.1, h4.2.2.1, mb_size (s31 h4.1), dp_bd_some, nI_1]
    exact Or.inl ⟨_, _, rfl, rfl, by omega, rfl, rfl⟩) dp_F 0 (0, 0) (0, 0) (Nat.zero_le _) (dp_F_lt (by omega) 0) ⟨rfl, rfl⟩
  subst he
  rw [f1, f2, dp_bd_some]
  exact ⟨_, rfl, rfl⟩
theorem sim_node (hR : RR σ μ) (a b : Int32) : ∃ r, j_X5_node σ a b = some r ∧ j_X6_node μ a b = some r := by
  obtain ⟨n, w, h, d, v, k, L, hV, ⟨r, S, -, -, -, hS⟩, ⟨sp, hd, hT⟩, -⟩ := hR
  have hn := hV.1.2.1
  unfold j_X5_node j_X6_node
  rcases in_node hV a with ⟨i, hi, rfl, e1, e2⟩ | ⟨e1, e2⟩
  rotate_left
  · simp only [e1, e2, dp_bd_some, i00]
    exact ⟨_, rfl, rfl⟩
  have hi12 : i < 12 := by omega
  simp only [e1, e2, dp_bd_some, i10]
  have low : ∃ r, jj_X5_node_38 σ (nI i) b = some r ∧ (if b = (0 : Int32) then (if dp_inb (nI i) 12 = true then (some ((μ.2 2) (nI i).toNatClampNeg)) else none) else (if b = (1 : Int32) then (if dp_inb (nI i) 12 = true then (some ((μ.2 3) (nI i).toNatClampNeg)) else none) else (if b = (2 : Int32) then (if dp_inb (nI i) 12 = true then (some ((μ.2 4) (nI i).toNatClampNeg)) else none) else (if b = (3 : Int32) then (dp_bd (j_X6_heardBy μ (nI i)) fun x3 => (some x3)) else (if b = (4 : Int32) then (if dp_inb (nI i) 12 = true then (if ((μ.2 5) (nI i).toNatClampNeg) = (0 : Int32) then (some (0 : Int32)) else (some (1 : Int32))) else none) else (some (-2 : Int32))))))) = some r := by
    unfold jj_X5_node_38
    simp only [if_pos (dp_inb_nI hi12 (show 12 < 2 ^ 31 by decide)), nI_clamp (show i < 2 ^ 31 by omega)]
    by_cases c0 : b = 0
    · rw [if_pos c0, if_pos c0, (hS i hi).2.1, (hS i hi).2.2]
      exact ⟨_, rfl, rfl⟩
    by_cases c1 : b = 1
    · rw [if_neg c0, if_neg c0, if_pos c1, if_pos c1, (hT.2.1 i hi12).1]
      exact ⟨_, rfl, rfl⟩
    by_cases c2 : b = 2
    · rw [if_neg c0, if_neg c0, if_neg c1, if_neg c1, if_pos c2, if_pos c2, (hT.2.1 i hi12).2.2]
      exact ⟨_, rfl, rfl⟩
    rw [if_neg c0, if_neg c0, if_neg c1, if_neg c1, if_neg c2, if_neg c2]
    by_cases c3 : b = 3
    · obtain ⟨r, g1, g2⟩ := hall_rel hT hi12
      rw [if_pos c3, if_pos c3, g1, g2]
      exact ⟨_, rfl, rfl⟩
    rw [if_neg c3, if_neg c3]
    by_cases c4 : b = 4
    · rw [if_pos c4, if_pos c4, hT.2.2.1.2.1, mb_tb (s31 hT.2.2.1.1) (by omega), hT.2.2.1.2.2 i hi12]
      by_cases z : sp.testBit i = true
      · rw [if_pos z, i10]; exact ⟨_, rfl, rfl⟩
      · rw [if_neg z, i00]; exact ⟨_, rfl, rfl⟩
    · rw [if_neg c4, if_neg c4]
      exact ⟨_, rfl, rfl⟩
  rcases wi b 10 13 (by decide) (by decide) with ⟨j, h1, h2, rfl, h4⟩ | ⟨h1, h2⟩
  · have e1 : nI j - 10 = nI (j - 10) := pk_sub (b := 10) h1
    have e2 : nI i * 4 + nI (j - 10) = nI (4 * i + (j - 10)) := by rw [show (4 : Int32) = nI 4 from rfl, pk_mul, nI_add, Nat.mul_comm]
    have e3 : 4 * nI i + nI j - 10 = nI (4 * i + (j - 10)) := by
      rw [show (4 : Int32) = nI 4 from rfl, pk_mul, nI_add, show nI (4 * i + j) - 10 = nI (4 * i + j - 10) from pk_sub (b := 10) (by omega), show 4 * i + j - 10 = 4 * i + (j - 10) by omega]
    have h5 := hT.2.2.2 (4 * i + (j - 10)) (by omega)
    unfold j_X3_heardOf
    rw [show j_X6_within (nI j) 10 13 = some 1 from h4, dp_bd_some, i10, if_neg (show ¬ nI j < (10 : Int32) from nI_nlt (b := 10) h1 (by omega)), if_neg (show ¬ (14 : Int32) ≤ nI j from nI_ge (b := 14) (by omega) (by decide)), e1, e2, e3, if_pos (dp_inb_nI (by omega) (by decide)), if_pos (dp_inb_nI (by omega) (by decide)), nI_clamp (by omega), dp_bd_some, h5.2.1, h5.2.2.1, mb_size (s31 h5.1), dp_bd_some]
    exact ⟨_, rfl, rfl⟩
  · rw [show j_X6_within b 10 13 = some 0 from h2, dp_bd_some, i00]
    rcases h1 with z | z
    · rw [if_pos (show b < 10 from z)]
      exact low
    · have z1 : ¬ b < 10 := (up_lt (lo := 10) (by decide) (by decide) z).1
      have z2 : (14 : Int32) ≤ b := by
        rw [i_lt, nI_toInt (by decide)] at z
        rw [i_le, show (14 : Int32).toInt = 14 from by decide]
        omega
      rw [if_neg z1, if_pos z2]
      exact low
end ND
