/-! ===== 42: bands; how many ===== -/
def lst (p : Nat → Bool) (sc : Nat → Int32) : Nat → Int32
  | 0 => -9
  | i + 1 => if p i = true then (if lst p sc i < sc i then sc i else lst p sc i) else lst p sc i
theorem lst_succ (p : Nat → Bool) (sc : Nat → Int32) (i : Nat) : lst p sc (i + 1) = if p i = true then (if lst p sc i < sc i then sc i else lst p sc i) else lst p sc i := rfl
theorem lst_low {p : Nat → Bool} {sc : Nat → Int32} {lo : Nat} (h : ∀ i, i < lo → p i = false) : ∀ i, i ≤ lo → lst p sc i = -9
  | 0, _ => rfl
  | i + 1, hi => by rw [lst_succ, h i (by omega), if_neg (by decide)]; exact lst_low h i (by omega)
theorem lst_high {p : Nat → Bool} {sc : Nat → Int32} {hi : Nat} (h : ∀ i, hi ≤ i → p i = false) : ∀ k, lst p sc (hi + k) = lst p sc hi
  | 0 => rfl
  | k + 1 => by rw [show hi + (k + 1) = hi + k + 1 from rfl, lst_succ, h _ (by omega), if_neg (by decide)]; exact lst_high h k
theorem ct_high {p : Nat → Bool} {hi : Nat} (h : ∀ i, hi ≤ i → p i = false) : ∀ k, fb_ct p (hi + k) = fb_ct p hi
  | 0 => rfl
  | k + 1 => by rw [show hi + (k + 1) = hi + k + 1 from rfl, fb_ct_succ, h _ (by omega), if_neg (by decide), Nat.add_zero]; exact ct_high h k
theorem row_k : ((List.range 13).all fun w => (List.range 13).all fun b => decide (nI (2 ^ w - 1) <<< (nI b &&& 31) = nI ((2 ^ w - 1) * 2 ^ b)) && (decide (12 < b + w) || decide ((2 ^ w - 1) * 2 ^ b < 4096)) && (List.range 12).all fun i => ((2 ^ w - 1) * 2 ^ b).testBit i == (decide (b ≤ i) && decide (i < b + w))) = true := by decide +kernel
theorem row_ok {w b : Nat} (hw : w + b ≤ 12) : nI (2 ^ w - 1) <<< (nI b &&& 31) = nI ((2 ^ w - 1) * 2 ^ b) ∧ (2 ^ w - 1) * 2 ^ b < 4096 ∧ ∀ i, i < 12 → ((2 ^ w - 1) * 2 ^ b).testBit i = (decide (b ≤ i) && decide (i < b + w)) := by
  have h := row_k
  rw [List.all_eq_true] at h
  have h1 := h w (List.mem_range.mpr (by omega))
  rw [List.all_eq_true] at h1
  have h2 := h1 b (List.mem_range.mpr (by omega))
  simp only [Bool.and_eq_true, Bool.or_eq_true, decide_eq_true_eq, List.all_eq_true, List.mem_range, beq_iff_eq] at h2
  obtain ⟨⟨z1, z2⟩, z3⟩ := h2
  refine ⟨z1, ?_, z3⟩
  rcases z2 with z | z
  · omega
  · exact z
section BD
variable {σ σ' μ μ' : dp_Z} {n w h d v k sp : Nat} {L hd : Nat → Nat} {i s u c : Nat}
theorem liars_class (hV : VN σ μ n w h d v k L) : ∃ l, j_X2_liars σ = some (nI l) ∧ l < 4096 ∧ ∀ i, l.testBit i = true ↔ i < n ∧ ¬ σ.2 1 i = -9 := by
  have hn := hV.1.2.1
  unfold j_X2_liars
  obtain ⟨r, e1, l, rfl, h1, h2⟩ := dp_run (b := jb_X2_liars_4 σ) (fun i x => ∃ l, x = (nI l, nI i) ∧ l < 4096 ∧ ∀ j, l.testBit j = true ↔ j < i ∧ ¬ σ.2 1 j = -9) (fun r => ∃ l, r = nI l ∧ l < 4096 ∧ ∀ j, l.testBit j = true ↔ j < n ∧ ¬ σ.2 1 j = -9) n (by
    rintro i x hi ⟨l, rfl, h1, h2⟩
    unfold jb_X2_liars_4 jj_X2_liars_29
    dsimp only
    rw [hV.2.1.1]
    by_cases ce : i = n
    · subst ce
      exact Or.inr ⟨_, if_pos (nI_le (Nat.le_refl _) (by omega)), l, rfl, h1, h2⟩
    have hi2 : i < n := by omega
    rw [if_neg (nI_ge hi2 (by omega)), if_pos (dp_inb_nI (by omega) (by decide)), nI_clamp (by omega), nI_1, mb_one i (by omega), fa_or]
    by_cases z : σ.2 1 i = -9
    · rw [if_pos z]
      refine Or.inl ⟨_, rfl, hi2, l, rfl, h1, fun j => ?_⟩
      rw [h2 j]
      constructor
      · rintro ⟨y1, y2⟩; exact ⟨by omega, y2⟩
      · rintro ⟨y1, y2⟩
        by_cases e : j = i
        · subst e; exact absurd z y2
        · exact ⟨by omega, y2⟩
    · rw [if_neg z]
      refine Or.inl ⟨_, rfl, hi2, l ||| 2 ^ i, rfl, or12 h1 (pw12 (by omega)), fun j => ?_⟩
      rw [fb_bit_set, Bool.or_eq_true, decide_eq_true_eq, h2 j]
      constructor
      · rintro (⟨y1, y2⟩ | y)
        · exact ⟨by omega, y2⟩
        · subst y; exact ⟨by omega, z⟩
      · rintro ⟨y1, y2⟩
        by_cases e : j = i
        · exact Or.inr e
        · exact Or.inl ⟨by omega, y2⟩) dp_F 0 (0, 0) (Nat.zero_le _) (dp_F_lt (by omega) 0) ⟨0, rfl, by decide, fun j => by simp⟩
  rw [e1, dp_bd_some]
  exact ⟨l, rfl, h1, h2⟩
/-- a mask of the honest between two numbers -/
def HM (σ : dp_Z) (n lo hi m : Nat) : Prop := m < 4096 ∧ lo ≤ hi ∧ hi ≤ n ∧ ∀ i, m.testBit i = true ↔ lo ≤ i ∧ i < hi ∧ σ.2 1 i = -9
theorem HM.low {lo hi m : Nat} (hm : HM σ n lo hi m) (f : Nat → Bool) : ∀ i, i < lo → (m.testBit i && f i) = false := by
  intro i hi
  have : m.testBit i = false := by
    cases z : m.testBit i with
    | false => rfl
    | true => have := ((hm.2.2.2 i).mp z).1; omega
  rw [this]; rfl
theorem HM.high {lo hi m : Nat} (hm : HM σ n lo hi m) (f : Nat → Bool) : ∀ i, hi ≤ i → (m.testBit i && f i) = false := by
  intro i hi
  have : m.testBit i = false := by
    cases z : m.testBit i with
    | false => rfl
    | true => have := ((hm.2.2.2 i).mp z).2.1; omega
  rw [this]; rfl
theorem right_class (hV : VN σ μ n w h d v k L) {m : Nat} (hm : m < 4096) : j_X3_right σ (nI m) = some (nI (fb_ct (fun i => m.testBit i && decide (σ.2 3 i = nI v)) n)) := by
  have hn := hV.1.2.1
  unfold j_X3_right
  obtain ⟨r, e1, rfl⟩ := dp_run (b := jb_X3_right_5 σ (nI m)) (fun i x => x = (nI (fb_ct (fun i => m.testBit i && decide (σ.2 3 i = nI v)) i), nI i)) (fun r => r = nI (fb_ct (fun i => m.testBit i && decide (σ.2 3 i = nI v)) n)) n (by
    rintro i x hi rfl
    unfold jb_X3_right_5 jj_X3_right_40
    dsimp only
    rw [hV.2.1.1, hV.2.1.2.2.2.2.1]
    by_cases ce : i = n
    · subst ce
      exact Or.inr ⟨_, if_pos (nI_le (Nat.le_refl _) (by omega)), rfl⟩
    have hi2 : i < n := by omega
    rw [if_neg (nI_ge hi2 (by omega)), mb_isIn (s31 hm) (by omega), dp_bd_some, if_pos (dp_inb_nI (by omega) (by decide)), nI_clamp (by omega), nI_1, nI_1, fb_ct_succ]
    by_cases z : m.testBit i = true
    · rw [if_pos z, i10, z]
      by_cases y : σ.2 3 i = nI v
      · rw [if_pos y]
        exact Or.inl ⟨_, rfl, hi2, by simp [y]⟩
      · rw [if_neg y]
        exact Or.inl ⟨_, rfl, hi2, by simp [y]⟩
    · rw [if_neg z, i00]
      exact Or.inl ⟨_, rfl, hi2, by simp [z]⟩) dp_F 0 (0, 0) (Nat.zero_le _) (dp_F_lt (by omega) 0) rfl
  rw [e1, dp_bd_some]
theorem misled_class (hV : VN σ μ n w h d v k L) {m : Nat} (hm : m < 4096) : j_X3_misled σ (nI m) = some (nI (fb_ct (fun i => m.testBit i && decide (¬ σ.2 3 i = -9 ∧ ¬ σ.2 3 i = nI v)) n)) := by
  have hn := hV.1.2.1
  unfold j_X3_misled
  obtain ⟨r, e1, rfl⟩ := dp_run (b := jb_X3_misled_5 σ (nI m)) (fun i x => x = (nI (fb_ct (fun i => m.testBit i && decide (¬ σ.2 3 i = -9 ∧ ¬ σ.2 3 i = nI v)) i), nI i)) (fun r => r = nI (fb_ct (fun i => m.testBit i && decide (¬ σ.2 3 i = -9 ∧ ¬ σ.2 3 i = nI v)) n)) n (by
    rintro i x hi rfl
    unfold jb_X3_misled_5 jj_X3_misled_52
    dsimp only
    rw [hV.2.1.1, hV.2.1.2.2.2.2.1]
    by_cases ce : i = n
    · subst ce
      exact Or.inr ⟨_, if_pos (nI_le (Nat.le_refl _) (by omega)), rfl⟩
    have hi2 : i < n := by omega
    rw [if_neg (nI_ge hi2 (by omega)), mb_isIn (s31 hm) (by omega), dp_bd_some, if_pos (dp_inb_nI (by omega) (by decide)), if_pos (dp_inb_nI (by omega) (by decide)), nI_clamp (by omega), nI_1, nI_1, fb_ct_succ]
    by_cases z : m.testBit i = true
    · rw [if_pos z, i10, z]
      by_cases x : σ.2 3 i = -9
      · rw [if_pos x]
        exact Or.inl ⟨_, rfl, hi2, by simp [x]⟩
      by_cases y : σ.2 3 i = nI v
      · rw [if_neg x, if_pos y]
        exact Or.inl ⟨_, rfl, hi2, by simp [y]⟩
      · rw [if_neg x, if_neg y]
        exact Or.inl ⟨_, rfl, hi2, by simp [x, y]⟩
    · rw [if_neg z, i00]
      exact Or.inl ⟨_, rfl, hi2, by simp [z]⟩) dp_F 0 (0, 0) (Nat.zero_le _) (dp_F_lt (by omega) 0) rfl
  rw [e1, dp_bd_some]
def FW (σ : dp_Z) (v wh i : Nat) : Bool := if wh = 0 then true else if wh = 1 then decide (σ.2 3 i = nI v) else decide (¬ σ.2 3 i = -9 ∧ ¬ σ.2 3 i = nI v)
theorem many_model (hV : VN σ μ n w h d v k L) (hT : VT σ μ sp hd) {lo hi m wh : Nat} (hm : HM σ n lo hi m) (hwh : wh ≤ 2) : j_X6_manyHonest μ (nI lo) (nI hi) (nI wh) = some (nI (fb_ct (fun i => m.testBit i && FW σ v wh i) n)) := by
  have hn := hV.1.2.1
  have hv := hV.1.2.2.2.2.2.2.1
  obtain ⟨m1, m2, m3, m4⟩ := id hm
  have hend : fb_ct (fun i => m.testBit i && FW σ v wh i) n = fb_ct (fun i => m.testBit i && FW σ v wh i) hi := by
    have := ct_high (p := fun i => m.testBit i && FW σ v wh i) (hm.high (FW σ v wh)) (n - hi)
    rwa [show hi + (n - hi) = n by omega] at this
  have hsta : fb_ct (fun i => m.testBit i && FW σ v wh i) lo = 0 := fb_ct_zero.mpr (hm.low (FW σ v wh))
  rw [hend]
  unfold j_X6_manyHonest
  obtain ⟨r, e1, rfl⟩ := dp_run (b := jb_X6_manyHonest_6 μ (nI hi) (nI wh)) (fun j x => lo ≤ j ∧ x = (nI (fb_ct (fun i => m.testBit i && FW σ v wh i) j), nI j)) (fun r => r = nI (fb_ct (fun i => m.testBit i && FW σ v wh i) hi)) hi (by
    rintro i x hi2 ⟨hlo, rfl⟩
    unfold jb_X6_manyHonest_6
    dsimp only
    by_cases ce : i = hi
    · subst ce
      exact Or.inr ⟨_, if_pos (nI_le (Nat.le_refl _) (by omega)), rfl⟩
    have hi3 : i < hi := by omega
    have hi12 : i < 12 := by omega
    have q100 : ∀ c : Int32, jj_X6_manyHonest_100 μ (nI hi) (nI wh) (nI i) 1 c = some (.inl (c + 1, nI (i + 1))) := by intro c; unfold jj_X6_manyHonest_100; rw [nI_1]
    have q99 : ∀ c : Int32, jj_X6_manyHonest_99 μ (nI hi) (nI wh) (nI i) c = some (.inl (c, nI (i + 1))) := by intro c; unfold jj_X6_manyHonest_99 jj_X6_manyHonest_100; rw [nI_1, Int32.add_zero]
    have q77 : ∀ (c t : Int32), jj_X6_manyHonest_77 μ (nI hi) (nI wh) c (nI i) t = some (.inl ((if σ.2 1 i = -9 ∧ ¬ t = 0 then c + 1 else c), nI (i + 1))) := by
      intro c t
      unfold jj_X6_manyHonest_77 j_X6_isHonest
      rw [q100, q99, if_pos (dp_inb_nI hi12 (by decide)), nI_clamp (by omega), (hV.2.2.2.2 i hi12).1]
      by_cases a1 : σ.2 1 i = -9
      · rw [if_pos a1, dp_bd_some, i10]
        by_cases a2 : t = 0
        · rw [if_pos a2, if_neg (fun z => z.2 a2)]
        · rw [if_neg a2, if_pos (show σ.2 1 i = -9 ∧ ¬ t = 0 from ⟨a1, a2⟩)]
      · rw [if_neg a1, dp_bd_some, i00, if_neg (fun z => a1 z.1)]
    rw [if_neg (nI_ge hi3 (by omega)), if_pos (dp_inb_nI hi12 (by decide)), nI_clamp (by omega), (hT.2.1 i hi12).1, fb_ct_succ]
    have hbit : m.testBit i = decide (σ.2 1 i = -9) := by
      by_cases z : σ.2 1 i = -9
      · rw [decide_eq_true z]; exact (m4 i).mpr ⟨hlo, hi3, z⟩
      · rw [decide_eq_false z]
        cases y : m.testBit i with
        | false => rfl
        | true => exact absurd ((m4 i).mp y).2.2 z
    have fin : ∀ (P : Prop) [Decidable P] (t : Int32), (FW σ v wh i = true ↔ ¬ t = 0) → ∃ x', (some (.inl ((if σ.2 1 i = -9 ∧ ¬ t = 0 then nI (fb_ct (fun i => m.testBit i && FW σ v wh i) i) + 1 else nI (fb_ct (fun i => m.testBit i && FW σ v wh i) i)), nI (i + 1))) : Option ((Int32 × Int32) ⊕ Int32)) = some (.inl x') ∧ i < hi ∧ lo ≤ i + 1 ∧ x' = (nI (fb_ct (fun i => m.testBit i && FW σ v wh i) i + (if (m.testBit i && FW σ v wh i) = true then 1 else 0)), nI (i + 1)) := by
      intro P _ t ht
      refine ⟨_, rfl, hi3, by omega, ?_⟩
      have hiff : (m.testBit i && FW σ v wh i) = true ↔ σ.2 1 i = -9 ∧ ¬ t = 0 := by rw [hbit, Bool.and_eq_true, decide_eq_true_eq, ht]
      by_cases z : σ.2 1 i = -9 ∧ ¬ t = 0
      · rw [if_pos z, if_pos (hiff.mpr z), nI_1]
      · rw [if_neg z, if_neg (fun y => z (hiff.mp y))]; rfl
    have key : ∃ t : Int32, (if σ.2 3 i = -9 then jj_X6_manyHonest_29 μ (nI hi) (nI wh) (nI (fb_ct (fun i => m.testBit i && FW σ v wh i) i)) (nI i) 0 else jj_X6_manyHonest_29 μ (nI hi) (nI wh) (nI (fb_ct (fun i => m.testBit i && FW σ v wh i) i)) (nI i) 1) = jj_X6_manyHonest_77 μ (nI hi) (nI wh) (nI (fb_ct (fun i => m.testBit i && FW σ v wh i) i)) (nI i) t ∧ (FW σ v wh i = true ↔ ¬ t = 0) := by
      unfold jj_X6_manyHonest_29 jj_X6_manyHonest_50 jj_X6_manyHonest_69 jj_X6_manyHonest_72 jj_X6_manyHonest_76
      rw [if_pos (dp_inb_nI hi12 (by decide)), if_pos (dp_inb_nI hi12 (by decide)), nI_clamp (by omega), (hT.2.1 i hi12).1, hV.2.2.1.2.2.2.2.1]
      have hw3 : wh = 0 ∨ wh = 1 ∨ wh = 2 := by omega
      rcases hw3 with rfl | rfl | rfl
      · refine ⟨1, ?_, ?_⟩
        · rw [if_pos (show nI 0 = (0 : Int32) from rfl)]; split <;> rfl
        · unfold FW; simp
      · by_cases a : σ.2 3 i = -9
        · refine ⟨0, ?_, ?_⟩
          · rw [if_pos a, if_neg (show ¬ nI 1 = (0 : Int32) by decide), if_pos rfl]
          · unfold FW
            have : ¬ (-9 : Int32) = nI v := fun z => ne9 (show v < 2 ^ 31 by omega) z.symm
            simp [a, this]
        · by_cases b : σ.2 3 i = nI v
          · refine ⟨1, ?_, ?_⟩
            · rw [if_neg a, if_neg (show ¬ nI 1 = (0 : Int32) by decide), if_neg (show ¬ (1 : Int32) = 0 by decide), if_pos (show nI 1 = (1 : Int32) from rfl), if_pos b, if_pos rfl]
            · unfold FW; simp [b]
          · refine ⟨0, ?_, ?_⟩
            · rw [if_neg a, if_neg (show ¬ nI 1 = (0 : Int32) by decide), if_neg (show ¬ (1 : Int32) = 0 by decide), if_pos (show nI 1 = (1 : Int32) from rfl), if_neg b, if_neg (show ¬ (1 : Int32) = 0 by decide)]
            · unfold FW; simp [b]
      · by_cases a : σ.2 3 i = -9
        · refine ⟨0, ?_, ?_⟩
          · rw [if_pos a, if_neg (show ¬ nI 2 = (0 : Int32) by decide), if_pos rfl]
          · unfold FW
            simp [a]
        · by_cases b : σ.2 3 i = nI v
          · refine ⟨0, ?_, ?_⟩
            · rw [if_neg a, if_neg (show ¬ nI 2 = (0 : Int32) by decide), if_neg (show ¬ (1 : Int32) = 0 by decide), if_neg (show ¬ nI 2 = (1 : Int32) by decide), if_pos b, if_neg (show ¬ (0 : Int32) = 1 by decide)]
            · unfold FW; simp [b]
          · refine ⟨1, ?_, ?_⟩
            · rw [if_neg a, if_neg (show ¬ nI 2 = (0 : Int32) by decide), if_neg (show ¬ (1 : Int32) = 0 by decide), if_neg (show ¬ nI 2 = (1 : Int32) by decide), if_neg b, if_pos rfl]
            · unfold FW; simp [a, b]
    obtain ⟨t, k1, k2⟩ := key
    rw [k1, q77]
    exact Or.inl (fin True t k2)) dp_F lo (0, nI lo) m2 (Nat.lt_of_le_of_lt (Nat.sub_le _ _) (show hi < 10000 by omega)) ⟨Nat.le_refl _, by rw [hsta]; rfl⟩
  rw [e1, dp_bd_some]
theorem last_class (hV : VN σ μ n w h d v k L) {m : Nat} (hm : m < 4096) : ∃ r, j_X3_lastTake σ (nI m) = some r ∧ ((∃ i, i < n ∧ m.testBit i = true ∧ σ.2 3 i = -9) → r = -9) ∧ ((¬ ∃ i, i < n ∧ m.testBit i = true ∧ σ.2 3 i = -9) → r = lst m.testBit (σ.2 4) n) := by
  have hn := hV.1.2.1
  unfold j_X3_lastTake
  obtain ⟨r, e1, he⟩ := dp_run (b := jb_X3_lastTake_6 σ (nI m)) (fun i x => x = (lst m.testBit (σ.2 4) i, nI i) ∧ ¬ ∃ j, j < i ∧ m.testBit j = true ∧ σ.2 3 j = -9) (fun r => (r = .inl (-9) ∧ ∃ i, i < n ∧ m.testBit i = true ∧ σ.2 3 i = -9) ∨ (r = .inr (lst m.testBit (σ.2 4) n) ∧ ¬ ∃ i, i < n ∧ m.testBit i = true ∧ σ.2 3 i = -9)) n (by
    rintro i x hi ⟨rfl, hb⟩
    unfold jb_X3_lastTake_6 jj_X3_lastTake_51
    dsimp only
    rw [hV.2.1.1]
    by_cases ce : i = n
    · subst ce
      exact Or.inr ⟨_, if_pos (nI_le (Nat.le_refl _) (by omega)), Or.inr ⟨rfl, hb⟩⟩
    have hi2 : i < n := by omega
    have ext : ¬ (m.testBit i = true ∧ σ.2 3 i = -9) → ¬ ∃ j, j < i + 1 ∧ m.testBit j = true ∧ σ.2 3 j = -9 := by
      rintro hz ⟨j, h1, h2, h3⟩
      by_cases e : j = i
      · subst e; exact hz ⟨h2, h3⟩
      · exact hb ⟨j, by omega, h2, h3⟩
    rw [if_neg (nI_ge hi2 (by omega)), mb_isIn (s31 hm) (by omega), dp_bd_some, if_pos (dp_inb_nI (by omega) (by decide)), if_pos (dp_inb_nI (by omega) (by decide)), nI_clamp (by omega), nI_1, lst_succ]
    by_cases z : m.testBit i = true
    · rw [if_pos z, i10]
      by_cases y : σ.2 3 i = -9
      · rw [if_pos y]
        exact Or.inr ⟨_, rfl, Or.inl ⟨rfl, i, hi2, z, y⟩⟩
      · rw [if_neg y, dp_bd_some, if_pos z]
        exact Or.inl ⟨_, rfl, hi2, rfl, ext (fun x => y x.2)⟩
    · rw [if_neg z, i00, if_neg z]
      exact Or.inl ⟨_, rfl, hi2, rfl, ext (fun x => z x.1)⟩) dp_F 0 (-9, 0) (Nat.zero_le _) (dp_F_lt (by omega) 0) ⟨rfl, by rintro ⟨j, h1, -⟩; omega⟩
  rw [e1, dp_bd_some]
  rcases he with ⟨rfl, h⟩ | ⟨rfl, h⟩
  · exact ⟨_, rfl, fun _ => rfl, fun z => absurd h z⟩
  · exact ⟨_, rfl, fun z => absurd z h, fun _ => rfl⟩
theorem last_model (hV : VN σ μ n w h d v k L) (hT : VT σ μ sp hd) {lo hi m : Nat} (hm : HM σ n lo hi m) : ∃ r, j_X6_lastIn μ (nI lo) (nI hi) = some r ∧ ((∃ i, i < n ∧ m.testBit i = true ∧ σ.2 3 i = -9) → r = -9) ∧ ((¬ ∃ i, i < n ∧ m.testBit i = true ∧ σ.2 3 i = -9) → r = lst m.testBit (σ.2 4) n) := by
  have hn := hV.1.2.1
  obtain ⟨m1, m2, m3, m4⟩ := id hm
  have hmH : ∀ i, hi ≤ i → m.testBit i = false := fun i hi2 => by have := hm.high (fun _ => true) i hi2; simpa using this
  have hmL : ∀ i, i < lo → m.testBit i = false := fun i hi2 => by have := hm.low (fun _ => true) i hi2; simpa using this
  have hend : lst m.testBit (σ.2 4) n = lst m.testBit (σ.2 4) hi := by
    have := lst_high (sc := σ.2 4) hmH (n - hi)
    rwa [show hi + (n - hi) = n by omega] at this
  rw [hend]
  unfold j_X6_lastIn
  obtain ⟨r, e1, he⟩ := dp_run (b := jb_X6_lastIn_6 μ (nI hi)) (fun i x => lo ≤ i ∧ x = (lst m.testBit (σ.2 4) i, nI i) ∧ ¬ ∃ j, j < i ∧ m.testBit j = true ∧ σ.2 3 j = -9) (fun r => (r = .inl (-9) ∧ ∃ i, i < n ∧ m.testBit i = true ∧ σ.2 3 i = -9) ∨ (r = .inr (lst m.testBit (σ.2 4) hi) ∧ ¬ ∃ i, i < n ∧ m.testBit i = true ∧ σ.2 3 i = -9)) hi (by
    rintro i x hi2 ⟨hlo, rfl, hb⟩
    unfold jb_X6_lastIn_6 jj_X6_lastIn_36 jj_X6_lastIn_66 jj_X6_lastIn_67 j_X6_isHonest
    dsimp only
    by_cases ce : i = hi
    · subst ce
      refine Or.inr ⟨_, if_pos (nI_le (Nat.le_refl _) (by omega)), Or.inr ⟨rfl, ?_⟩⟩
      rintro ⟨j, h1, h2, h3⟩
      exact hb ⟨j, ((m4 j).mp h2).2.1, h2, h3⟩
    have hi3 : i < hi := by omega
    have hi12 : i < 12 := by omega
    have ext : ¬ (m.testBit i = true ∧ σ.2 3 i = -9) → ¬ ∃ j, j < i + 1 ∧ m.testBit j = true ∧ σ.2 3 j = -9 := by
      rintro hz ⟨j, h1, h2, h3⟩
      by_cases e : j = i
      · subst e; exact hz ⟨h2, h3⟩
      · exact hb ⟨j, by omega, h2, h3⟩
    have hbit : m.testBit i = true ↔ σ.2 1 i = -9 := ⟨fun z => ((m4 i).mp z).2.2, fun z => (m4 i).mpr ⟨hlo, hi3, z⟩⟩
    rw [if_neg (nI_ge hi3 (by omega))]
    simp only [if_pos (dp_inb_nI hi12 (show 12 < 2 ^ 31 by decide)), nI_clamp (show i < 2 ^ 31 by omega), (hV.2.2.2.2 i hi12).1, (hT.2.1 i hi12).1, (hT.2.1 i hi12).2.2, nI_1]
    rw [lst_succ]
    by_cases z : σ.2 1 i = -9
    · rw [if_pos z, dp_bd_some, i10, dp_bd_some, i10, if_pos (hbit.mpr z)]
      by_cases y : σ.2 3 i = -9
      · rw [if_pos y]
        exact Or.inr ⟨_, rfl, Or.inl ⟨rfl, i, by omega, hbit.mpr z, y⟩⟩
      · rw [if_neg y]
        by_cases x : lst m.testBit (σ.2 4) i < σ.2 4 i
        · rw [if_neg (i_gt x), if_pos x]
          exact Or.inl ⟨_, rfl, hi3, by omega, rfl, ext (fun x => y x.2)⟩
        · rw [if_pos (i_ge x), if_neg x]
          exact Or.inl ⟨_, rfl, hi3, by omega, rfl, ext (fun x => y x.2)⟩
    · rw [if_neg z, dp_bd_some, i00, dp_bd_some, i00, if_neg (fun x => z (hbit.mp x))]
      exact Or.inl ⟨_, rfl, hi3, by omega, rfl, ext (fun x => z (hbit.mp x.1))⟩) dp_F lo (-9, nI lo) m2 (Nat.lt_of_le_of_lt (Nat.sub_le _ _) (show hi < 10000 by omega)) ⟨Nat.le_refl _, by rw [lst_low hmL lo (Nat.le_refl _)], by rintro ⟨j, h1, h2, -⟩; rw [hmL j h1] at h2; cases h2⟩
  rw [e1, dp_bd_some]
  rcases he with ⟨rfl, h⟩ | ⟨rfl, h⟩
  · exact ⟨_, rfl, fun _ => rfl, fun z => absurd h z⟩
  · exact ⟨_, rfl, fun z => absurd z h, fun _ => rfl⟩
theorem mask_ok {a l lo hi : Nat} (hl : l < 4096) (hb : ∀ i, l.testBit i = true ↔ i < n ∧ ¬ σ.2 1 i = -9) (ha : a < 4096) (hlo : lo ≤ hi) (hhi : hi ≤ n) (hn : n ≤ 12) (h1 : ∀ i, i < 12 → a.testBit i = (decide (lo ≤ i) && decide (i < hi))) : HM σ n lo hi (a ^^^ (a &&& l)) := by
  refine ⟨xor12 ha (and12 ha), hlo, hhi, fun i => ?_⟩
  rw [Nat.testBit_xor, Nat.testBit_and]
  by_cases hi12 : i < 12
  · rw [h1 i hi12]
    have := hb i
    by_cases c1 : lo ≤ i <;> by_cases c2 : i < hi <;> by_cases c3 : σ.2 1 i = -9 <;> cases c4 : l.testBit i <;> simp_all <;> omega
  · rw [big12 ha (by omega)]
    constructor
    · intro z; simp at z
    · rintro ⟨_, z, _⟩; omega
theorem sim_band (hR : RR σ μ) (a b : Int32) : ∃ r, j_X5_band σ a b = some r ∧ j_X6_band μ a b = some r := by
  obtain ⟨n, w, h, d, v, k, L, hV, -, ⟨sp, hd, hT⟩, -⟩ := hR
  obtain ⟨n1, n2, n3, n4, n5, n6, n7, n8, n9⟩ := id hV.1
  have hh : h ≤ 12 := Nat.le_trans (Nat.le_mul_of_pos_left h n3) (by omega)
  have hw : w ≤ 12 := Nat.le_trans (Nat.le_mul_of_pos_right w n4) (by omega)
  unfold j_X5_band j_X6_band
  rw [hV.2.1.2.2.1, hV.2.2.1.2.2.1, hV.2.2.1.2.1, show nI h - 1 = nI (h - 1) from pk_sub (b := 1) n4]
  rcases wi a 0 (h - 1) (by decide) (by omega) with ⟨y, -, h2, rfl, h4⟩ | ⟨h1, h2⟩
  rotate_left
  · rw [show j_X6_within a 0 (nI (h - 1)) = some 0 from h2, dp_bd_some, i00]
    rcases h1 with z | z
    · rw [if_pos (show a < 0 from z)]
      exact ⟨_, rfl, rfl⟩
    · have z1 : ¬ a < 0 := (up_lt (lo := 0) (by omega) (by omega) z).1
      have z2 : ¬ a < nI h := by
        rw [i_lt, nI_toInt (by omega)] at z
        rw [i_lt, nI_toInt (by omega)]
        omega
      rw [if_neg z1, if_neg z2]
      exact ⟨_, rfl, rfl⟩
  have hy : y < h := by omega
  have hb := lay_b (w := w) (h := h) (x := 0) (y := y) (by omega) hy
  obtain ⟨l, l1, l2, l3⟩ := liars_class hV
  obtain ⟨k1, k2, k3⟩ := row_ok (w := w) (b := w * y) (by omega)
  have hM := mask_ok l2 l3 k2 (show w * y ≤ w * y + w by omega) (show w * y + w ≤ n by omega) n2 (fun i hi => k3 i hi)
  unfold j_X2_row
  rw [show j_X6_within (nI y) 0 (nI (h - 1)) = some 1 from h4, dp_bd_some, dp_bd_some, i10, if_neg (show ¬ nI y < (0 : Int32) from nI_nlt (b := 0) (by omega) (by omega)), if_pos (nI_lt hy (by omega)), hV.2.1.2.1, all_eq hw, pk_mul, k1, nI_add, l1, dp_bd_some]
  simp only [mb_not _ _ (s31 k2)]
  generalize (2 ^ w - 1) * 2 ^ (w * y) ^^^ ((2 ^ w - 1) * 2 ^ (w * y) &&& l) = m at hM ⊢
  rcases wi b 0 3 (by decide) (by decide) with ⟨j, -, h2, rfl, h4⟩ | ⟨h1, h2⟩
  · rw [show j_X6_within (nI j) 0 3 = some 1 from h4, dp_bd_some, i10]
    have hj : j = 0 ∨ j = 1 ∨ j = 2 ∨ j = 3 := by omega
    rcases hj with rfl | rfl | rfl | rfl
    · rw [if_pos (show nI 0 = (0 : Int32) from rfl), if_neg (show ¬ nI 0 = (3 : Int32) by decide), mb_count _ hM.1, dp_bd_some, many_model hV hT hM (by decide), dp_bd_some]
      refine ⟨_, rfl, ?_⟩
      have e : (fun i => m.testBit i && FW σ v 0 i) = m.testBit := by funext i; unfold FW; simp
      have := ct_high (p := m.testBit) (hi := n) (fun i hi => by have := hM.high (fun _ => true) i (by omega); simpa using this) (12 - n)
      rw [show n + (12 - n) = 12 by omega] at this
      rw [e]
      unfold pcn
      rw [this]
    · rw [if_neg (show ¬ nI 1 = (0 : Int32) by decide), if_pos (show nI 1 = (1 : Int32) from rfl), if_neg (show ¬ nI 1 = (3 : Int32) by decide), right_class hV hM.1, dp_bd_some, many_model hV hT hM (by decide), dp_bd_some]
      exact ⟨_, rfl, rfl⟩
    · rw [if_neg (show ¬ nI 2 = (0 : Int32) by decide), if_neg (show ¬ nI 2 = (1 : Int32) by decide), if_pos (show nI 2 = (2 : Int32) from rfl), if_neg (show ¬ nI 2 = (3 : Int32) by decide), misled_class hV hM.1, dp_bd_some, many_model hV hT hM (by decide), dp_bd_some]
      exact ⟨_, rfl, rfl⟩
    · rw [if_neg (show ¬ nI 3 = (0 : Int32) by decide), if_neg (show ¬ nI 3 = (1 : Int32) by decide), if_neg (show ¬ nI 3 = (2 : Int32) by decide), if_pos (show nI 3 = (3 : Int32) from rfl), if_pos (show nI 3 = (3 : Int32) from rfl)]
      obtain ⟨r, g1, g2, g3⟩ := last_class hV hM.1
      obtain ⟨q, g4, g5, g6⟩ := last_model hV hT hM
      rw [g1, g4, dp_bd_some, dp_bd_some]
      by_cases z : ∃ i, i < n ∧ m.testBit i = true ∧ σ.2 3 i = -9
      · rw [g2 z, g5 z]; exact ⟨_, rfl, rfl⟩
      · rw [g3 z, g6 z]; exact ⟨_, rfl, rfl⟩
  · rw [show j_X6_within b 0 3 = some 0 from h2, dp_bd_some, i00]
    have hne : ∀ j, j ≤ 3 → ¬ b = nI j := by
      rintro j hj rfl
      rcases h1 with z | z
      · exact nI_nlt (Nat.zero_le j) (by omega) z
      · exact nI_nlt hj (by decide) z
    rw [if_neg (show ¬ b = 0 from hne 0 (by decide)), if_neg (show ¬ b = 1 from hne 1 (by decide)), if_neg (show ¬ b = 2 from hne 2 (by decide)), if_neg (show ¬ b = 3 from hne 3 (by decide))]
    exact ⟨_, rfl, rfl⟩
theorem sim_many (hR : RR σ μ) (a : Int32) : ∃ r, j_X5_many σ a = some r ∧ j_X6_many μ a = some r := by
  obtain ⟨n, w, h, d, v, k, L, hV, ⟨r, S, -, r1, r2, -⟩, ⟨sp, hd, hT⟩, ⟨c, -, c1, c2, -⟩, ⟨t, hs, ww, ⟨-, -, w1, w2, -⟩, -⟩, ⟨q, ln, vl, st, w', ⟨-, q1, q2⟩, -⟩⟩ := hR
  obtain ⟨n1, n2, n3, n4, n5, n6, n7, n8, n9⟩ := id hV.1
  obtain ⟨l, l1, l2, l3⟩ := liars_class hV
  have hM := mask_ok (lo := 0) (hi := n) l2 l3 (all_lt n2) (Nat.zero_le _) (Nat.le_refl _) n2 (fun i hi => by rw [Nat.testBit_two_pow_sub_one]; simp)
  unfold j_X5_many j_X6_many j_X2_all
  simp only [hV.2.1.1, hV.2.2.1.1, all_eq n2, l1, dp_bd_some, mb_not _ _ (s31 (all_lt n2))]
  generalize hmm : (2 ^ n - 1) ^^^ ((2 ^ n - 1) &&& l) = m at hM ⊢
  by_cases a0 : a = 0
  · rw [if_pos a0, if_pos a0]; exact ⟨_, rfl, rfl⟩
  rw [if_neg a0, if_neg a0]
  by_cases a1 : a = 1
  · rw [if_pos a1, if_pos a1]
    unfold j_X2_pairs j_X6_twos
    obtain ⟨r, q, f1, f2, he⟩ := dp_rel (b1 := jb_X2_pairs_4 σ) (b2 := jb_X6_twos_4 μ) (fun j x y => x = y ∧ x.2 = nI j) (fun r q => r = q) n (by
      rintro j ⟨t, ix⟩ ⟨t', iy⟩ hj ⟨p1, p2⟩
      simp only [Prod.mk.injEq] at p1 p2
      obtain ⟨rfl, rfl⟩ := p1
      subst p2
      unfold jb_X2_pairs_4 jb_X6_twos_4
      dsimp only
      rw [hV.2.1.1, hV.2.2.1.1]
      by_cases ce : j = n
      · subst ce
        exact Or.inr ⟨_, _, if_pos (nI_le (Nat.le_refl _) (by omega)), if_pos (nI_le (Nat.le_refl _) (by omega)), rfl⟩
      have hl := hV.2.2.2.1 j (by omega)
      rw [if_neg (nI_ge (show j < n by omega) (by omega)), if_neg (nI_ge (show j < n by omega) (by omega)), if_pos (dp_inb_nI (by omega) (by decide)), if_pos (dp_inb_nI (by omega) (by decide)), nI_clamp (by omega), hl.2.1, hl.2.2, mb_count _ hl.1, mb_size (s31 hl.1), dp_bd_some, nI_1]
      exact Or.inl ⟨_, _, rfl, rfl, by omega, rfl, rfl⟩) dp_F 0 (0, 0) (0, 0) (Nat.zero_le _) (dp_F_lt (by omega) 0) ⟨rfl, rfl⟩
    subst he
    rw [f1, f2, dp_bd_some, dp_bd_some]
    exact ⟨_, rfl, rfl⟩
  rw [if_neg a1, if_neg a1]
  by_cases a2 : a = 2
  · rw [if_pos a2, if_pos a2, mb_count _ l2, dp_bd_some, show j_X6_manyHonest μ 0 (nI n) 0 = _ from many_model (lo := 0) (wh := 0) hV hT hM (by decide), dp_bd_some]
    refine ⟨_, rfl, ?_⟩
    have e1 : fb_ct (fun i => m.testBit i && FW σ v 0 i) n = fb_ct (fun i => !l.testBit i) n := fb_ct_cong (fun i hi => by
      unfold FW
      have x1 := hM.2.2.2 i
      have x2 := l3 i
      by_cases y : σ.2 1 i = -9 <;> cases z1 : m.testBit i <;> cases z2 : l.testBit i <;> simp_all)
    have e2 := fb_ct_not l.testBit n
    have e3 := ct_high (p := l.testBit) (hi := n) (fun i hi => by
      cases z : l.testBit i with
      | false => rfl
      | true => have := ((l3 i).mp z).1; omega) (12 - n)
    rw [show n + (12 - n) = 12 by omega] at e3
    rw [e1, pk_sub (by omega)]
    unfold pcn
    rw [e3, show n - fb_ct (fun i => !l.testBit i) n = fb_ct l.testBit n by omega]
  rw [if_neg a2, if_neg a2]
  by_cases a3 : a = 3
  · rw [if_pos a3, if_pos a3, r1, r2]; exact ⟨_, rfl, rfl⟩
  rw [if_neg a3, if_neg a3]
  by_cases a4 : a = 4
  · rw [if_pos a4, if_pos a4, hT.1]; exact ⟨_, rfl, rfl⟩
  rw [if_neg a4, if_neg a4]
  by_cases a5 : a = 5
  · rw [if_pos a5, if_pos a5, a5, show (5 : Int32) - 4 = 1 by decide, right_class hV hM.1, dp_bd_some, show j_X6_manyHonest μ 0 (nI n) 1 = _ from many_model (lo := 0) (wh := 1) hV hT hM (by decide), dp_bd_some]
    exact ⟨_, rfl, rfl⟩
  rw [if_neg a5, if_neg a5]
  by_cases a6 : a = 6
  · rw [if_pos a6, if_pos a6, a6, show (6 : Int32) - 4 = 2 by decide, misled_class hV hM.1, dp_bd_some, show j_X6_manyHonest μ 0 (nI n) 2 = _ from many_model (lo := 0) (wh := 2) hV hT hM (by decide), dp_bd_some]
    exact ⟨_, rfl, rfl⟩
  rw [if_neg a6, if_neg a6, c1, c2, q1, q2, w1, w2, hV.2.1.2.2.1, hV.2.2.1.2.2.1]
  by_cases a7 : a = 7
  · rw [if_pos a7]; exact ⟨_, rfl, rfl⟩
  rw [if_neg a7]
  by_cases a8 : a = 8
  · rw [if_pos a8]; exact ⟨_, rfl, rfl⟩
  rw [if_neg a8]
  by_cases a9 : a = 9
  · rw [if_pos a9]; exact ⟨_, rfl, rfl⟩
  rw [if_neg a9]
  split
  · exact ⟨_, rfl, rfl⟩
  · exact ⟨_, rfl, rfl⟩
end BD
