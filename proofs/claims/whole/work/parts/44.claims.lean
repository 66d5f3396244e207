/-! ===== 44: what is told; claims ===== -/
section CL
variable {σ σ' μ μ' : dp_Z} {n w h d v k sp : Nat} {L hd : Nat → Nat} {t hs c : Nat} {ww : Nat → Nat} {len val st wc : Nat → Nat}
def inh (t : Nat) (ww : Nat → Nat) (len wc : Nat → Nat) (k : Nat) : Prop := len k = t ∧ ∀ i, i < t → wc (12 * k + i) = ww i
theorem mul12 (k i : Nat) : nI k * 12 + nI i = nI (12 * k + i) := by rw [show (12 : Int32) = nI 12 from rfl, pk_mul, nI_add, Nat.mul_comm]
theorem mul12' (k i : Nat) : 12 * nI k + nI i = nI (12 * k + i) := by rw [show (12 : Int32) = nI 12 from rfl, pk_mul, nI_add]
theorem inhand (hW : VW σ μ d t hs ww) (hL : VL σ μ d c len val st wc) (hk : k < c) : ∃ r, j_X0_isInHand σ (nI k) = some r ∧ (r = 0 ↔ ¬ inh t ww len wc k) := by
  obtain ⟨⟨t1, t2, t3, t4, t5⟩, w2, -⟩ := hW
  obtain ⟨⟨l1, l2, l3⟩, l4⟩ := hL
  obtain ⟨⟨a1, a2, a3, a4⟩, ⟨b1, b2, b3⟩, c1, c2, c3⟩ := l4 k hk
  unfold j_X0_isInHand
  rw [if_pos (dp_inb_nI (show k < 8 by omega) (by decide)), nI_clamp (by omega), a3, t3]
  by_cases e : len k = t
  rotate_left
  · rw [if_neg (fun z => e (nI_inj (by omega) (by omega) z))]
    exact ⟨0, rfl, fun _ z => e z.1, fun _ => rfl⟩
  rw [if_pos (by rw [e])]
  obtain ⟨r, e1, he⟩ := dp_run (b := jb_X0_isInHand_17 σ (nI k)) (fun i x => x = nI i ∧ ∀ j, j < i → wc (12 * k + j) = ww j) (fun r => (r = .inl 0 ∧ ¬ inh t ww len wc k) ∨ (r = .inr () ∧ inh t ww len wc k)) t (by
    rintro i x hi ⟨rfl, hj⟩
    unfold jb_X0_isInHand_17
    rw [t3, mul12]
    by_cases ce : i = t
    · subst ce
      exact Or.inr ⟨_, if_pos (nI_le (Nat.le_refl _) (by omega)), Or.inr ⟨rfl, e, hj⟩⟩
    have hi2 : i < t := by omega
    have h1 := c1 i (by omega)
    have h2 := w2 i hi2
    rw [if_neg (nI_ge hi2 (by omega)), if_pos (dp_inb_nI (by omega) (by decide)), if_pos (dp_inb_nI (by omega) (by decide)), nI_clamp (show 12 * k + i < 2 ^ 31 by omega), nI_clamp (show i < 2 ^ 31 by omega), h1.2.1, h2.2.1, nI_1]
    by_cases y : wc (12 * k + i) = ww i
    · rw [if_pos (by rw [y])]
      refine Or.inl ⟨_, rfl, hi2, rfl, fun j hj2 => ?_⟩
      by_cases z : j = i
      · subst z; exact y
      · exact hj j (by omega)
    · rw [if_neg (fun z => y (nI_inj (by omega) (by omega) z))]
      exact Or.inr ⟨_, rfl, Or.inl ⟨rfl, fun z => y (z.2 i hi2)⟩⟩) dp_F 0 0 (Nat.zero_le _) (dp_F_lt (by omega) 0) ⟨rfl, fun j hj => absurd hj (Nat.not_lt_zero j)⟩
  rw [e1, dp_bd_some]
  rcases he with ⟨rfl, z⟩ | ⟨rfl, z⟩
  · exact ⟨0, rfl, fun _ => z, fun _ => rfl⟩
  · exact ⟨1, rfl, fun y => absurd y (by decide), fun y => absurd z y⟩
theorem cl42 (hW : VW σ μ d t hs ww) (hL : VL σ μ d c len val st wc) (hk : k < c) (he : len k = t) (v1 : Int32) : ∃ r, dp_loop (jb_X6_isClaimed_42 μ v1 (nI k)) dp_F (1, 0) = some r ∧ (r = 0 ↔ ¬ inh t ww len wc k) := by
  obtain ⟨⟨t1, t2, t3, t4, t5⟩, w2, -⟩ := hW
  obtain ⟨⟨l1, l2, l3⟩, l4⟩ := hL
  obtain ⟨⟨a1, a2, a3, a4⟩, ⟨b1, b2, b3⟩, c1, c2, c3⟩ := l4 k hk
  obtain ⟨r, e1, he⟩ := dp_run (b := jb_X6_isClaimed_42 μ v1 (nI k)) (fun i x => (x = (1, nI i) ∧ ∀ j, j < i → wc (12 * k + j) = ww j) ∨ (∃ y, x = (0, y)) ∧ ¬ inh t ww len wc k) (fun r => (r = 0 ∧ ¬ inh t ww len wc k) ∨ (r = 1 ∧ inh t ww len wc k)) (t + 1) (by
    rintro i x hi (⟨rfl, hj⟩ | ⟨⟨y, rfl⟩, hz⟩)
    · unfold jb_X6_isClaimed_42 jj_X6_isClaimed_82
      dsimp only
      rw [t4, mul12']
      by_cases ce : t ≤ i
      · exact Or.inr ⟨_, if_pos (nI_le ce (by omega)), Or.inr ⟨rfl, he, fun j hj2 => hj j (by omega)⟩⟩
      have hi2 : i < t := by omega
      have h1 := c1 i (by omega)
      have h2 := w2 i hi2
      rw [if_neg (nI_ge hi2 (by omega)), i10, if_pos (dp_inb_nI (by omega) (by decide)), if_pos (dp_inb_nI (by omega) (by decide)), nI_clamp (show 12 * k + i < 2 ^ 31 by omega), nI_clamp (show i < 2 ^ 31 by omega), h1.2.2, h2.2.2, nI_1]
      by_cases y : wc (12 * k + i) = ww i
      · rw [if_pos (by rw [y])]
        refine Or.inl ⟨_, rfl, by omega, Or.inl ⟨rfl, fun j hj2 => ?_⟩⟩
        by_cases z : j = i
        · subst z; exact y
        · exact hj j (by omega)
      · rw [if_neg (fun z => y (nI_inj (by omega) (by omega) z))]
        exact Or.inl ⟨_, rfl, by omega, Or.inr ⟨⟨_, rfl⟩, fun z => y (z.2 i hi2)⟩⟩
    · unfold jb_X6_isClaimed_42
      dsimp only
      rw [i00]
      refine Or.inr ⟨0, ?_, Or.inl ⟨rfl, hz⟩⟩
      split <;> rfl) dp_F 0 (1, 0) (Nat.zero_le _) (dp_F_lt (by omega) 0) (Or.inl ⟨rfl, fun j hj => absurd hj (Nat.not_lt_zero j)⟩)
  rcases he with ⟨rfl, z⟩ | ⟨rfl, z⟩
  · exact ⟨0, e1, fun _ => z, fun _ => rfl⟩
  · exact ⟨1, e1, fun y => absurd y (by decide), fun y => absurd z y⟩
theorem told (hW : VW σ μ d t hs ww) (hL : VL σ μ d c len val st wc) {a : Nat} (ha : a < 4) : ∃ r, j_X0_isTold σ (nI a) = some r ∧ j_X6_isClaimed μ (nI a) = some r := by
  obtain ⟨⟨l1, l2, l3⟩, l4⟩ := id hL
  have t1 := hW.1.1
  unfold j_X0_isTold j_X6_isClaimed
  obtain ⟨r, q, f1, f2, he⟩ := dp_rel (b1 := jb_X0_isTold_2 σ (nI a)) (b2 := jb_X6_isClaimed_2 μ (nI a)) (fun i x y => x = nI i ∧ y = nI i) (fun r q => r = q) c (by
    rintro i x y hi ⟨rfl, rfl⟩
    unfold jb_X0_isTold_2 jb_X6_isClaimed_2 jj_X6_isClaimed_37
    rw [l2, l3]
    by_cases ce : i = c
    · subst ce
      exact Or.inr ⟨_, _, if_pos (nI_le (Nat.le_refl _) (by omega)), if_pos (nI_le (Nat.le_refl _) (by omega)), rfl⟩
    have hi2 : i < c := by omega
    obtain ⟨⟨a1, a2, a3, a4⟩, ⟨b1, b2, b3⟩, c1, c2, c3⟩ := l4 i hi2
    have no1 : jj_X0_isTold_30 σ (nI a) (nI i) = some (.inl (nI (i + 1))) := by unfold jj_X0_isTold_30; rw [nI_1]
    have no2 : jj_X6_isClaimed_38 μ (nI a) (nI i) 0 = some (.inl (nI (i + 1))) := by
      unfold jj_X6_isClaimed_38
      have e : dp_loop (jb_X6_isClaimed_42 μ (nI a) (nI i)) dp_F (0, 0) = some 0 := by
        obtain ⟨r, e1, rfl⟩ := dp_run (b := jb_X6_isClaimed_42 μ (nI a) (nI i)) (fun j x => x = (0, 0)) (fun r => r = 0) 0 (by
          rintro j x hj rfl
          unfold jb_X6_isClaimed_42
          dsimp only
          rw [i00]
          refine Or.inr ⟨0, ?_, rfl⟩
          split <;> rfl) dp_F 0 (0, 0) (Nat.zero_le _) (dp_F_lt (by decide) 0) rfl
        exact e1
      rw [e, dp_bd_some, i00, nI_1]
    rw [if_neg (nI_ge hi2 (by omega)), if_neg (nI_ge hi2 (by omega)), if_pos (dp_inb_nI (show i < 8 by omega) (by decide)), if_pos (dp_inb_nI (show i < 8 by omega) (by decide)), if_pos (dp_inb_nI (show i < 8 by omega) (by decide)), nI_clamp (by omega), b2, b3, no1, no2, a4, hW.1.2.2.2.1]
    by_cases ev : val i = a
    rotate_left
    · rw [if_neg (fun z => ev (nI_inj (by omega) (by omega) z)), if_neg (fun z => ev (nI_inj (by omega) (by omega) z))]
      exact Or.inl ⟨_, _, rfl, rfl, hi2, rfl, rfl⟩
    rw [if_pos (by rw [ev]), if_pos (by rw [ev])]
    obtain ⟨r, g1, g2⟩ := inhand hW hL hi2
    rw [g1, dp_bd_some]
    by_cases el : len i = t
    rotate_left
    · rw [if_neg (fun z => el (nI_inj (by omega) (by omega) z)), if_pos (g2.mpr (fun z => el z.1))]
      exact Or.inl ⟨_, _, rfl, rfl, hi2, rfl, rfl⟩
    rw [if_pos (show nI (len i) = nI t by rw [el])]
    obtain ⟨q, g3, g4⟩ := cl42 hW hL hi2 el (nI a)
    unfold jj_X6_isClaimed_38
    rw [g3, dp_bd_some, nI_1]
    by_cases z : inh t ww len wc i
    · rw [if_neg (fun y => g2.mp y z), if_neg (fun y => g4.mp y z)]
      exact Or.inr ⟨_, _, rfl, rfl, rfl⟩
    · rw [if_pos (g2.mpr z), if_pos (g4.mpr z)]
      exact Or.inl ⟨_, _, rfl, rfl, hi2, rfl, rfl⟩) dp_F 0 0 0 (Nat.zero_le _) (dp_F_lt (by omega) 0) ⟨rfl, rfl⟩
  subst he
  rw [f1, f2, dp_bd_some]
  cases r with
  | inl r => exact ⟨_, rfl, rfl⟩
  | inr r => exact ⟨_, rfl, rfl⟩
theorem setof (hL : VL σ μ d c len val st wc) (hk : k < c) : j_X6_setOf μ (nI k) = some (nI (st k)) := by
  obtain ⟨⟨l1, l2, l3⟩, l4⟩ := hL
  obtain ⟨⟨a1, a2, a3, a4⟩, ⟨b1, b2, b3⟩, c1, c2, c3, c4, c5⟩ := l4 k hk
  unfold j_X6_setOf
  obtain ⟨r, e1, S, rfl, h1⟩ := dp_run (b := jb_X6_setOf_4 μ (nI k)) (fun i x => ∃ S, x = (nI S, nI i) ∧ ∀ b, S.testBit b = true ↔ ∃ j, j < i ∧ wc (12 * k + j) = b) (fun r => ∃ S, r = nI S ∧ ∀ b, S.testBit b = true ↔ ∃ j, j < len k ∧ wc (12 * k + j) = b) (len k) (by
    rintro i x hi ⟨S, rfl, hb⟩
    unfold jb_X6_setOf_4
    dsimp only
    rw [if_pos (dp_inb_nI (show k < 8 by omega) (by decide)), nI_clamp (show k < 2 ^ 31 by omega), a4, mul12']
    by_cases ce : i = len k
    · subst ce
      exact Or.inr ⟨_, if_pos (nI_le (Nat.le_refl _) (by omega)), S, rfl, hb⟩
    have hi2 : i < len k := by omega
    have h1 := c1 i hi2
    rw [if_neg (nI_ge hi2 (by omega)), if_pos (dp_inb_nI (by omega) (by decide)), dp_bd_some, nI_clamp (by omega), h1.2.2, mb_one _ (by omega), fa_or, nI_1]
    refine Or.inl ⟨_, rfl, hi2, _, rfl, fun b => ?_⟩
    rw [fb_bit_set, Bool.or_eq_true, decide_eq_true_eq, hb b]
    constructor
    · rintro (⟨j, y1, y2⟩ | y)
      · exact ⟨j, by omega, y2⟩
      · exact ⟨i, by omega, y.symm⟩
    · rintro ⟨j, y1, y2⟩
      by_cases e : j = i
      · subst e; exact Or.inr y2.symm
      · exact Or.inl ⟨j, by omega, y2⟩) dp_F 0 (0, 0) (Nat.zero_le _) (dp_F_lt (by omega) 0) ⟨0, rfl, fun b => by simp⟩
  rw [e1, dp_bd_some]
  have : S = st k := by
    apply Nat.eq_of_testBit_eq
    intro b
    rw [Bool.eq_iff_iff, h1 b, c5 b]
  rw [this]
theorem sim_claim (hR : RR σ μ) (a b : Int32) : ∃ r, j_X5_claim σ a b = some r ∧ j_X6_claim μ a b = some r := by
  obtain ⟨n, w, h, d, v, k, L, -, -, -, -, -, ⟨c, len, val, st, wc, hL⟩⟩ := hR
  obtain ⟨⟨l1, l2, l3⟩, l4⟩ := id hL
  unfold j_X5_claim j_X6_claim
  rw [l2, l3]
  by_cases h0 : a < 0
  · rw [if_pos h0]
    unfold j_X6_within
    rw [if_pos h0, dp_bd_some, i00]
    exact ⟨_, rfl, rfl⟩
  rw [if_neg h0]
  obtain ⟨j, hj, rfl⟩ := nI_of h0
  by_cases hc : j < c
  rotate_left
  · have e : j_X6_within (nI j) 0 (nI c - 1) = some 0 := by
      unfold j_X6_within
      rw [if_neg h0, if_pos]
      rw [i_lt, nI_toInt hj]
      have : (nI c - 1).toInt = (c : Int) - 1 := pk_sub_toInt (a := c) (b := 1) (by omega) (by decide)
      omega
    rw [if_neg (nI_nlt (by omega) (by omega)), e, dp_bd_some, i00]
    exact ⟨_, rfl, rfl⟩
  have e : j_X6_within (nI j) 0 (nI c - 1) = some 1 := by
    unfold j_X6_within
    rw [if_neg h0, show nI c - 1 = nI (c - 1) from pk_sub (b := 1) (by omega), if_neg (nI_nlt (by omega) (by omega))]
  rw [if_pos (nI_lt hc (by omega)), e, dp_bd_some, i10]
  obtain ⟨⟨a1, a2, a3, a4⟩, ⟨b1, b2, b3⟩, c1, c2, c3, c4, c5⟩ := l4 j hc
  have hj8 : j < 8 := by omega
  have low : ∃ r, jj_X5_claim_43 σ (nI j) b = some r ∧ (if b = (0 : Int32) then (if dp_inb (nI j) 8 = true then (some ((μ.2 9) (nI j).toNatClampNeg)) else none) else (if b = (1 : Int32) then (if dp_inb (nI j) 8 = true then (some ((μ.2 10) (nI j).toNatClampNeg)) else none) else (if b = (2 : Int32) then (dp_bd (j_X6_setOf μ (nI j)) fun x3 => (some x3)) else (some (-2 : Int32))))) = some r := by
    unfold jj_X5_claim_43
    simp only [if_pos (dp_inb_nI hj8 (show 8 < 2 ^ 31 by decide)), nI_clamp hj, a3, a4, b2, b3, c4, setof hL hc, dp_bd_some]
    by_cases z0 : b = 0
    · rw [if_pos z0]; exact ⟨_, rfl, rfl⟩
    rw [if_neg z0]
    by_cases z1 : b = 1
    · rw [if_pos z1]; exact ⟨_, rfl, rfl⟩
    rw [if_neg z1]
    by_cases z2 : b = 2
    · rw [if_pos z2]; exact ⟨_, rfl, rfl⟩
    rw [if_neg z2]
    exact ⟨_, rfl, rfl⟩
  rcases wi b 10 21 (by decide) (by decide) with ⟨i, h1, h2, rfl, h4⟩ | ⟨h1, h2⟩
  · unfold j_X0_placeOf
    have e1 : nI i - 10 = nI (i - 10) := pk_sub (b := 10) h1
    have e3 : 12 * nI j + nI i - 10 = nI (12 * j + (i - 10)) := by
      rw [mul12', show nI (12 * j + i) - 10 = nI (12 * j + i - 10) from pk_sub (b := 10) (by omega), show 12 * j + i - 10 = 12 * j + (i - 10) by omega]
    rw [show j_X6_within (nI i) 10 21 = some 1 from h4, dp_bd_some, i10, if_neg (show ¬ nI i < (10 : Int32) from nI_nlt (b := 10) h1 (by omega)), if_neg (show ¬ (22 : Int32) ≤ nI i from nI_ge (b := 22) (by omega) (by decide)), e3, e1, mul12, if_neg (show ¬ nI (i - 10) < (0 : Int32) from nI_nlt (b := 0) (by omega) (by omega)), if_pos (dp_inb_nI hj8 (by decide)), if_pos (dp_inb_nI hj8 (by decide)), nI_clamp hj, a3, a4]
    by_cases ci : len j ≤ i - 10
    · rw [if_pos (nI_le ci (by omega)), if_pos (nI_le ci (by omega)), dp_bd_some]
      exact ⟨_, rfl, rfl⟩
    · have h5 := c1 (i - 10) (by omega)
      rw [if_neg (nI_ge (show i - 10 < len j by omega) (by omega)), if_pos (dp_inb_nI (by omega) (by decide)), if_neg (nI_ge (show i - 10 < len j by omega) (by omega)), if_pos (dp_inb_nI (by omega) (by decide)), dp_bd_some, nI_clamp (by omega), h5.2.1, h5.2.2]
      exact ⟨_, rfl, rfl⟩
  · rw [show j_X6_within b 10 21 = some 0 from h2, dp_bd_some, i00]
    rcases h1 with z | z
    · rw [if_pos (show b < 10 from z)]
      exact low
    · have z1 : ¬ b < 10 := (up_lt (lo := 10) (by decide) (by decide) z).1
      have z2 : (22 : Int32) ≤ b := by
        rw [i_lt, nI_toInt (by decide)] at z
        rw [i_le, show (22 : Int32).toInt = 22 from by decide]
        omega
      rw [if_neg z1, if_pos z2]
      exact low
end CL
