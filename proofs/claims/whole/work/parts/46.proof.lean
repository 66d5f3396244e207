/-! ===== 46: proof and belief ===== -/
def mkb (f : Nat → Bool) : Nat → Nat
  | 0 => 0
  | c + 1 => if f c = true then mkb f c ||| 2 ^ c else mkb f c
theorem mkb_bit (f : Nat → Bool) (i : Nat) : ∀ c, (mkb f c).testBit i = (decide (i < c) && f i)
  | 0 => by unfold mkb; simp
  | c + 1 => by
    have ih := mkb_bit f i c
    unfold mkb
    by_cases z : f c = true
    · rw [if_pos z, fb_bit_set, ih]
      by_cases e : i = c
      · subst e; simp [z]
      · have : decide (i < c + 1) = decide (i < c) := by congr 1; exact propext ⟨fun y => by omega, fun y => by omega⟩
        rw [this]; simp [e]
    · rw [if_neg z, ih]
      by_cases e : i = c
      · subst e; simp [z]
      · have : decide (i < c + 1) = decide (i < c) := by congr 1; exact propext ⟨fun y => by omega, fun y => by omega⟩
        rw [this]
theorem mkb_lt (f : Nat → Bool) (c : Nat) : mkb f c < 2 ^ c := Nat.lt_pow_two_of_testBit _ (fun i hi => by rw [mkb_bit, decide_eq_false (by omega)]; rfl)
theorem ct_map (p g : Nat → Bool) : ∀ c, fb_ct (fun k => p k && g (fb_ct p k)) c = fb_ct g (fb_ct p c)
  | 0 => rfl
  | c + 1 => by
    rw [fb_ct_succ, ct_map p g c, fb_ct_succ p]
    cases z : p c with
    | false => rfl
    | true => rw [if_pos rfl, fb_ct_succ]; rfl
theorem ct_lt {p : Nat → Bool} {i j : Nat} (h : i < j) (hi : p i = true) : fb_ct p i < fb_ct p j := by
  have h1 := fb_ct_mono p (show i + 1 ≤ j from h)
  rw [fb_ct_succ, if_pos hi] at h1
  omega
theorem pcn_c {m c : Nat} (hm : m < 2 ^ c) (hc : c ≤ 12) : pcn m = fb_ct m.testBit c := by
  have := ct_high (p := m.testBit) (hi := c) (fun i hi => Nat.testBit_lt_two_pow (Nat.lt_of_lt_of_le hm (Nat.pow_le_pow_right (n := 2) (by decide) hi))) (12 - c)
  rw [show c + (12 - c) = 12 by omega] at this
  exact this
def pd (I : Nat → Nat) (m f : Nat) : Prop := ∀ i j, i < j → j < f → m.testBit i = true → m.testBit j = true → I i &&& I j = 0
def gd (p : Nat → Bool) (I : Nat → Nat) (m c : Nat) : Prop := (∀ k, k < c → m.testBit k = true → p k = true) ∧ pd I m c
theorem best_1 {p : Nat → Bool} {I inn : Nat → Nat} {c m' : Nat} (hc : c ≤ 8) (hI : ∀ k, k < c → p k = true → I (fb_ct p k) = inn k) (hm : m' < 2 ^ fb_ct p c) (h : pd I m' (fb_ct p c)) : ∃ m, m < 2 ^ c ∧ gd p inn m c ∧ pcn m = pcn m' := by
  have hb : ∀ i, i < c → (mkb (fun k => p k && m'.testBit (fb_ct p k)) c).testBit i = true → p i = true ∧ m'.testBit (fb_ct p i) = true := by
    intro i hi z
    rw [mkb_bit, Bool.and_eq_true, Bool.and_eq_true] at z
    exact z.2
  refine ⟨mkb (fun k => p k && m'.testBit (fb_ct p k)) c, mkb_lt _ c, ⟨fun k hk z => (hb k hk z).1, fun i j hij hj zi zj => ?_⟩, ?_⟩
  · obtain ⟨a1, a2⟩ := hb i (by omega) zi
    obtain ⟨b1, b2⟩ := hb j hj zj
    rw [← hI i (by omega) a1, ← hI j hj b1]
    exact h _ _ (ct_lt hij a1) (ct_lt hj b1) a2 b2
  · have hf := fb_ct_le p c
    rw [pcn_c (mkb_lt _ c) (by omega), pcn_c hm (by omega), ← ct_map p m'.testBit c]
    exact fb_ct_cong (fun k hk => by rw [mkb_bit, decide_eq_true hk]; rfl)
theorem best_2 {p : Nat → Bool} {I inn : Nat → Nat} {c m : Nat} (hc : c ≤ 8) (hI : ∀ k, k < c → p k = true → I (fb_ct p k) = inn k) (hm : m < 2 ^ c) (h : gd p inn m c) : ∃ m', m' < 2 ^ fb_ct p c ∧ pd I m' (fb_ct p c) ∧ pcn m' = pcn m := by
  have hf := fb_ct_le p c
  let f : Nat → Bool := fun i => (List.range c).any (fun k => p k && (fb_ct p k == i) && m.testBit k)
  have hfi : ∀ i, f i = true ↔ ∃ k, k < c ∧ p k = true ∧ fb_ct p k = i ∧ m.testBit k = true := by
    intro i
    show (List.range c).any (fun k => p k && (fb_ct p k == i) && m.testBit k) = true ↔ _
    rw [List.any_eq_true]
    constructor
    · rintro ⟨k, hk, z⟩
      rw [Bool.and_eq_true, Bool.and_eq_true, beq_iff_eq] at z
      exact ⟨k, List.mem_range.mp hk, z.1.1, z.1.2, z.2⟩
    · rintro ⟨k, hk, z1, z2, z3⟩
      exact ⟨k, List.mem_range.mpr hk, by rw [Bool.and_eq_true, Bool.and_eq_true, beq_iff_eq]; exact ⟨⟨z1, z2⟩, z3⟩⟩
  have hb : ∀ i, (mkb f (fb_ct p c)).testBit i = true → f i = true := by
    intro i z
    rw [mkb_bit, Bool.and_eq_true] at z
    exact z.2
  refine ⟨mkb f (fb_ct p c), mkb_lt _ _, fun i j hij hj zi zj => ?_, ?_⟩
  · obtain ⟨k1, a1, a2, a3, a4⟩ := (hfi i).mp (hb i zi)
    obtain ⟨k2, b1, b2, b3, b4⟩ := (hfi j).mp (hb j zj)
    have hk : k1 < k2 := by
      rcases Nat.lt_or_ge k1 k2 with z | z
      · exact z
      · have := fb_ct_mono p z; omega
    rw [← a3, ← b3, hI k1 a1 a2, hI k2 b1 b2]
    exact h.2 k1 k2 hk b1 a4 b4
  · rw [pcn_c (mkb_lt _ _) (by omega), pcn_c hm (by omega), fb_ct_cong (q := f) (fun k hk => by rw [mkb_bit, decide_eq_true hk]; rfl), ← ct_map p f c]
    refine fb_ct_cong (fun k hk => ?_)
    rw [Bool.eq_iff_iff, Bool.and_eq_true, hfi]
    constructor
    · rintro ⟨z1, k', y1, y2, y3, y4⟩
      have : k' = k := fb_ct_kth_one y2 z1 y3
      rw [← this]; exact y4
    · intro z
      exact ⟨h.1 k hk z, k, hk, h.1 k hk z, rfl, z⟩
theorem and_zero {a b : Nat} : a &&& b = 0 ↔ ∀ i, ¬ (a.testBit i = true ∧ b.testBit i = true) := by
  constructor
  · intro h i z
    have := congrArg (fun y => y.testBit i) h
    simp only [Nat.testBit_and, Nat.zero_testBit, z.1, z.2] at this
    cases this
  · intro h
    apply Nat.eq_of_testBit_eq
    intro i
    rw [Nat.testBit_and, Nat.zero_testBit]
    have := h i
    cases z1 : a.testBit i <;> cases z2 : b.testBit i <;> simp_all
section PF
variable {σ σ' μ μ' s : dp_Z} {n w h d v k x a f c : Nat} {L : Nat → Nat} {len val st wc I : Nat → Nat}
def fitB (x a : Nat) (len val wc : Nat → Nat) (k : Nat) : Bool := decide (val k = a ∧ wc (12 * k + (len k - 1)) = x)
def innN (x d : Nat) (st : Nat → Nat) (k : Nat) : Nat := st k ^^^ (st k &&& (2 ^ x ||| 2 ^ d))
theorem gather (hL : VL σ μ d c len val st wc) (hd : d < 12) (hx : x < 12) (ha : a < 4) : ∃ σ', j_X0_gatherInner σ (nI x) (nI a) = some (nI (fb_ct (fitB x a len val wc) c), σ') ∧ σ'.1 = σ.1 ∧ (∀ q, q ≠ 12 → σ'.2 q = σ.2 q) ∧ ∀ k, k < c → fitB x a len val wc k = true → σ'.2 12 (fb_ct (fitB x a len val wc) k) = nI (innN x d st k) := by
  obtain ⟨⟨l1, l2, l3⟩, l4⟩ := hL
  unfold j_X0_gatherInner
  obtain ⟨⟨r, re⟩, e1, h1, h2, h3, h4⟩ := dp_run (b := jb_X0_gatherInner_5 (nI x) (nI a)) (fun i y => y.2 = (nI (fb_ct (fitB x a len val wc) i), nI i) ∧ y.1.1 = σ.1 ∧ (∀ q, q ≠ 12 → y.1.2 q = σ.2 q) ∧ ∀ k, k < i → fitB x a len val wc k = true → y.1.2 12 (fb_ct (fitB x a len val wc) k) = nI (innN x d st k))
    (fun r => r.2 = nI (fb_ct (fitB x a len val wc) c) ∧ r.1.1 = σ.1 ∧ (∀ q, q ≠ 12 → r.1.2 q = σ.2 q) ∧ ∀ k, k < c → fitB x a len val wc k = true → r.1.2 12 (fb_ct (fitB x a len val wc) k) = nI (innN x d st k)) c (by
    rintro i ⟨y, z⟩ hi ⟨rfl, h1, h2, h3⟩
    dsimp only at h1 h2 h3
    unfold jb_X0_gatherInner_5 jj_X0_gatherInner_76
    dsimp only
    rw [h1, l2]
    by_cases ce : i = c
    · subst ce
      exact Or.inr ⟨_, if_pos (nI_le (Nat.le_refl _) (by omega)), rfl, h1, h2, h3⟩
    have hi2 : i < c := by omega
    have hi8 : i < 8 := by omega
    have hle := fb_ct_le (fitB x a len val wc) i
    obtain ⟨⟨a1, a2, a3, a4⟩, ⟨b1, b2, b3⟩, c1, c2, c3, c4, c5⟩ := l4 i hi2
    have pl : ∀ q, q < len i → j_X0_placeOf y (nI i) (nI q) = some (nI (wc (12 * i + q))) := by
      intro q hq
      unfold j_X0_placeOf
      rw [if_neg (show ¬ nI q < (0 : Int32) from nI_nlt (b := 0) (by omega) (by omega)), if_pos (dp_inb_nI hi8 (by decide)), nI_clamp (show i < 2 ^ 31 by omega), h2 9 (by decide), a3, if_neg (nI_ge hq (by omega)), mul12, if_pos (dp_inb_nI (by omega) (by decide)), nI_clamp (by omega), h2 8 (by decide), (c1 q hq).2.1]
    rw [if_neg (nI_ge hi2 (by omega)), if_pos (dp_inb_nI hi8 (by decide)), if_pos (dp_inb_nI hi8 (by decide)), if_pos (dp_inb_nI hi8 (by decide)), nI_clamp (show i < 2 ^ 31 by omega), h2 11 (by decide), h2 9 (by decide), h2 10 (by decide), b2, a3, c4, show nI (len i) - 1 = nI (len i - 1) from pk_sub (b := 1) (by omega), pl _ (by omega), show j_X0_placeOf y (nI i) 0 = _ from pl 0 (by omega), dp_bd_some, dp_bd_some, if_pos (dp_inb_nI (show fb_ct (fitB x a len val wc) i < 8 by omega) (by decide)), dp_bd_some, nI_clamp (show fb_ct (fitB x a len val wc) i < 2 ^ 31 by omega), Nat.add_zero, c2, mb_one x (by omega), mb_one d (by omega), fa_or, mb_not _ _ (s31 c3), nI_1, nI_1]
    have hwl := (c1 (len i - 1) (by omega)).1
    have skip : ¬ (val i = a ∧ wc (12 * i + (len i - 1)) = x) → ∃ x', (some (.inl (y, nI (fb_ct (fitB x a len val wc) i), nI (i + 1))) : Option ((dp_Z × Int32 × Int32) ⊕ (dp_Z × Int32))) = some (.inl x') ∧ i < c ∧ x'.2 = (nI (fb_ct (fitB x a len val wc) (i + 1)), nI (i + 1)) ∧ x'.1.1 = σ.1 ∧ (∀ q, q ≠ 12 → x'.1.2 q = σ.2 q) ∧ ∀ k, k < i + 1 → fitB x a len val wc k = true → x'.1.2 12 (fb_ct (fitB x a len val wc) k) = nI (innN x d st k) := by
      intro hz
      have hf : fitB x a len val wc i = false := decide_eq_false hz
      refine ⟨_, rfl, hi2, by rw [fb_ct_succ, hf]; rfl, h1, h2, fun k hk hfk => ?_⟩
      by_cases e : k = i
      · subst e; rw [hf] at hfk; cases hfk
      · exact h3 k (by omega) hfk
    by_cases ev : val i = a
    rotate_left
    · rw [if_neg (fun z => ev (nI_inj (by omega) (by omega) z))]
      exact Or.inl (skip (fun z => ev z.1))
    rw [if_pos (by rw [ev])]
    by_cases ew : wc (12 * i + (len i - 1)) = x
    rotate_left
    · rw [if_neg (fun z => ew (nI_inj (by omega) (by omega) z))]
      exact Or.inl (skip (fun z => ew z.2))
    rw [if_pos (by rw [ew])]
    have hf : fitB x a len val wc i = true := decide_eq_true ⟨ev, ew⟩
    refine Or.inl ⟨_, rfl, hi2, by rw [fb_ct_succ, if_pos hf], h1, fun q hq => (sr_ne hq).trans (h2 q hq), fun k hk hfk => ?_⟩
    dsimp only
    rw [sr_eq]
    by_cases e : k = i
    · subst e; rw [up_eq]; rfl
    · have hlt : fb_ct (fitB x a len val wc) k < fb_ct (fitB x a len val wc) i := ct_lt (by omega) hfk
      rw [up_ne (by omega)]
      exact h3 k (by omega) hfk) dp_F 0 (σ, 0, 0) (Nat.zero_le _) (dp_F_lt (by omega) 0) ⟨rfl, rfl, fun _ _ => rfl, fun k hk => absurd hk (Nat.not_lt_zero k)⟩
  dsimp only at h1 h2 h3 h4
  rw [e1, dp_bd_some, h1]
  exact ⟨r, rfl, h2, h3, h4⟩
theorem or_step {U J i m : Nat} {I : Nat → Nat} (hU : ∀ b, U.testBit b = true ↔ ∃ j, j < i ∧ m.testBit j = true ∧ (I j).testBit b = true) (hm : m.testBit i = true) (hJ : J = I i) : ∀ b, (U ||| J).testBit b = true ↔ ∃ j, j < i + 1 ∧ m.testBit j = true ∧ (I j).testBit b = true := by
  intro b
  rw [Nat.testBit_or, Bool.or_eq_true, hU b, hJ]
  constructor
  · rintro (⟨j, h1, h2⟩ | h)
    · exact ⟨j, by omega, h2⟩
    · exact ⟨i, by omega, hm, h⟩
  · rintro ⟨j, h1, h2, h3⟩
    by_cases e : j = i
    · subst e; exact Or.inr h3
    · exact Or.inl ⟨j, by omega, h2, h3⟩
theorem or_skip {U i m : Nat} {I : Nat → Nat} (hU : ∀ b, U.testBit b = true ↔ ∃ j, j < i ∧ m.testBit j = true ∧ (I j).testBit b = true) (hm : ¬ m.testBit i = true) : ∀ b, U.testBit b = true ↔ ∃ j, j < i + 1 ∧ m.testBit j = true ∧ (I j).testBit b = true := by
  intro b
  rw [hU b]
  constructor
  · rintro ⟨j, h1, h2⟩; exact ⟨j, by omega, h2⟩
  · rintro ⟨j, h1, h2, h3⟩
    by_cases e : j = i
    · subst e; exact absurd h2 hm
    · exact ⟨j, by omega, h2, h3⟩
theorem pd_yes {U i m : Nat} {I : Nat → Nat} (hU : ∀ b, U.testBit b = true ↔ ∃ j, j < i ∧ m.testBit j = true ∧ (I j).testBit b = true) (hp : pd I m i) (hz : U &&& I i = 0) : pd I m (i + 1) := by
  intro p q h1 h2 h3 h4
  by_cases e : q = i
  · subst e
    rw [and_zero] at hz ⊢
    rintro b ⟨y1, y2⟩
    exact hz b ⟨(hU b).mpr ⟨p, h1, h3, y1⟩, y2⟩
  · exact hp p q h1 (by omega) h3 h4
theorem pd_skip {i m : Nat} {I : Nat → Nat} (hp : pd I m i) (hm : ¬ m.testBit i = true) : pd I m (i + 1) := by
  intro p q h1 h2 h3 h4
  by_cases e : q = i
  · subst e; exact absurd h4 hm
  · exact hp p q h1 (by omega) h3 h4
theorem pd_no {U i m f : Nat} {I : Nat → Nat} (hU : ∀ b, U.testBit b = true ↔ ∃ j, j < i ∧ m.testBit j = true ∧ (I j).testBit b = true) (hm : m.testBit i = true) (hi : i < f) (hz : ¬ U &&& I i = 0) : ¬ pd I m f := by
  intro hp
  apply hz
  rw [and_zero]
  rintro b ⟨y1, y2⟩
  obtain ⟨j, z1, z2, z3⟩ := (hU b).mp y1
  exact and_zero.mp (hp j i z1 hi z2 hm) b ⟨z3, y2⟩
theorem apart (hf : f ≤ 8) (hI : ∀ i, i < f → I i < 4096 ∧ s.2 12 i = nI (I i)) {m : Nat} (hm : m < 4096) : ∃ r, j_X0_areApart s (nI m) (nI f) = some r ∧ (r = 0 ↔ ¬ pd I m f) := by
  unfold j_X0_areApart
  obtain ⟨r, e1, he⟩ := dp_run (b := jb_X0_areApart_5 s (nI m) (nI f)) (fun i x => ∃ U, x = (nI U, nI i) ∧ U < 4096 ∧ (∀ b, U.testBit b = true ↔ ∃ j, j < i ∧ m.testBit j = true ∧ (I j).testBit b = true) ∧ pd I m i) (fun r => (r = .inl 0 ∧ ¬ pd I m f) ∨ (r = .inr () ∧ pd I m f)) f (by
    rintro i x hi ⟨U, rfl, u1, u2, u3⟩
    unfold jb_X0_areApart_5 jj_X0_areApart_44
    dsimp only
    by_cases ce : i = f
    · subst ce
      exact Or.inr ⟨_, if_pos (nI_le (Nat.le_refl _) (by omega)), Or.inr ⟨rfl, u3⟩⟩
    have hi2 : i < f := by omega
    obtain ⟨i1, i2⟩ := hI i hi2
    rw [if_neg (nI_ge hi2 (by omega)), mb_isIn (s31 hm) (by omega), dp_bd_some, if_pos (dp_inb_nI (by omega) (by decide)), if_pos (dp_inb_nI (by omega) (by decide)), nI_clamp (by omega), i2, fa_and, fa_or, nI_1]
    by_cases hb : m.testBit i = true
    rotate_left
    · rw [if_neg hb, i00]
      exact Or.inl ⟨_, rfl, hi2, U, rfl, u1, or_skip u2 hb, pd_skip u3 hb⟩
    rw [if_pos hb, i10]
    by_cases hz : U &&& I i = 0
    · rw [if_pos (by rw [hz]; rfl)]
      exact Or.inl ⟨_, rfl, hi2, _, rfl, or12 u1 i1, or_step u2 hb rfl, pd_yes u2 u3 hz⟩
    · rw [if_neg (nz (s31 (and12 u1)) hz)]
      exact Or.inr ⟨_, rfl, Or.inl ⟨rfl, pd_no u2 hb hi2 hz⟩⟩) dp_F 0 (0, 0) (Nat.zero_le _) (dp_F_lt (by omega) 0) ⟨0, rfl, by decide, fun b => by simp, fun p q h1 h2 => by omega⟩
  rw [e1, dp_bd_some]
  rcases he with ⟨rfl, z⟩ | ⟨rfl, z⟩
  · exact ⟨0, rfl, fun _ => z, fun _ => rfl⟩
  · exact ⟨1, rfl, fun y => absurd y (by decide), fun y => absurd z y⟩
theorem pcn0 : pcn 0 = 0 := by decide
theorem most_class (hf : f ≤ 8) (hI : ∀ i, i < f → I i < 4096 ∧ s.2 12 i = nI (I i)) : ∃ B, dp_loop (jb_X0_mostApart_13 s (nI f)) dp_F (0, 0) = some (nI B) ∧ (∃ m, m < 2 ^ f ∧ pd I m f ∧ pcn m = B) ∧ ∀ m, m < 2 ^ f → pd I m f → pcn m ≤ B := by
  have hp : 2 ^ f ≤ 2 ^ 8 := Nat.pow_le_pow_right (n := 2) (by decide) hf
  have hp1 : 1 ≤ 2 ^ f := Nat.one_le_two_pow
  obtain ⟨r, e1, B, rfl, h1, h2⟩ := dp_run (b := jb_X0_mostApart_13 s (nI f)) (fun q x => ∃ B, x = (nI B, nI q) ∧ (∃ m, m < 2 ^ f ∧ pd I m f ∧ pcn m = B) ∧ ∀ m, m < q → pd I m f → pcn m ≤ B) (fun r => ∃ B, r = nI B ∧ (∃ m, m < 2 ^ f ∧ pd I m f ∧ pcn m = B) ∧ ∀ m, m < 2 ^ f → pd I m f → pcn m ≤ B) (2 ^ f) (by
    rintro q x hq ⟨B, rfl, ⟨m0, b1, b2, b3⟩, b4⟩
    have hB : B ≤ 12 := by rw [← b3]; exact pcn_le m0
    unfold jb_X0_mostApart_13 jj_X0_mostApart_49
    dsimp only
    rw [mb_one f (by omega)]
    by_cases ce : q = 2 ^ f
    · subst ce
      exact Or.inr ⟨_, if_pos (nI_le (Nat.le_refl _) (by omega)), B, rfl, ⟨m0, b1, b2, b3⟩, b4⟩
    have hq2 : q < 2 ^ f := by omega
    have hql := pcn_le q
    obtain ⟨r, g1, g2⟩ := apart (m := q) hf hI (by omega)
    rw [if_neg (nI_ge hq2 (by omega)), mb_count q (by omega), dp_bd_some, g1, dp_bd_some, nI_1]
    have keep : (pd I q f → pcn q ≤ B) → ∃ x', (some (.inl (nI B, nI (q + 1))) : Option ((Int32 × Int32) ⊕ Int32)) = some (.inl x') ∧ q < 2 ^ f ∧ ∃ B, x' = (nI B, nI (q + 1)) ∧ (∃ m, m < 2 ^ f ∧ pd I m f ∧ pcn m = B) ∧ ∀ m, m < q + 1 → pd I m f → pcn m ≤ B := fun z => ⟨_, rfl, hq2, B, rfl, ⟨m0, b1, b2, b3⟩, fun m hm hpm => by
      by_cases e : m = q
      · subst e; exact z hpm
      · exact b4 m (by omega) hpm⟩
    by_cases c1 : pcn q ≤ B
    · rw [if_pos (nI_le c1 (by omega))]
      exact Or.inl (keep (fun _ => c1))
    rw [if_neg (nI_ge (show B < pcn q by omega) (by omega))]
    by_cases c2 : pd I q f
    · rw [if_neg (fun z => g2.mp z c2)]
      refine Or.inl ⟨_, rfl, hq2, pcn q, rfl, ⟨q, hq2, c2, rfl⟩, fun m hm hpm => ?_⟩
      by_cases e : m = q
      · subst e; exact Nat.le_refl _
      · have := b4 m (by omega) hpm; omega
    · rw [if_pos (g2.mpr c2)]
      exact Or.inl (keep (fun z => absurd z c2))) dp_F 0 (0, 0) (Nat.zero_le _) (dp_F_lt (by omega) 0) ⟨0, rfl, ⟨0, by omega, fun p q _ _ z => by simp at z, pcn0⟩, fun m hm => absurd hm (Nat.not_lt_zero m)⟩
  exact ⟨B, e1, h1, h2⟩
theorem innM (hd : d < 12) (hx : x < 12) {S : Nat} (hS : S < 4096) : (nI S &&& ((1 : Int32) <<< (nI d &&& 31) ^^^ (-1 : Int32))) &&& ((1 : Int32) <<< (nI x &&& 31) ^^^ (-1 : Int32)) = nI (S ^^^ (S &&& (2 ^ x ||| 2 ^ d))) := by
  rw [mb_one d (by omega), mb_one x (by omega), mb_not _ _ (s31 hS), mb_not _ _ (s31 (xor12 hS (and12 hS)))]
  congr 1
  apply Nat.eq_of_testBit_eq
  intro i
  simp only [Nat.testBit_xor, Nat.testBit_and, Nat.testBit_or]
  cases S.testBit i <;> cases (2 ^ x).testBit i <;> cases (2 ^ d).testBit i <;> rfl
theorem inn_lt {S : Nat} (hS : S < 4096) (b : Nat) : S ^^^ (S &&& b) < 4096 := xor12 hS (and12 hS)
theorem proves (hL : VL σ μ d c len val st wc) (h3 : μ.1 3 = nI d) (hd : d < 12) (hx : x < 12) (ha : a < 4) {m : Nat} (hm : m < 2 ^ c) : ∃ r, j_X6_proves μ (nI m) (nI x) (nI a) = some r ∧ (gd (fitB x a len val wc) (innN x d st) m c → r = nI (pcn m)) ∧ (¬ gd (fitB x a len val wc) (innN x d st) m c → r = 0) := by
  obtain ⟨⟨l1, l2, l3⟩, l4⟩ := id hL
  have hm31 : m < 2 ^ 31 := Nat.lt_of_lt_of_le hm (Nat.pow_le_pow_right (n := 2) (by decide) (by omega))
  unfold j_X6_proves
  obtain ⟨r, e1, he⟩ := dp_run (b := jb_X6_proves_9 μ (nI m) (nI x) (nI a)) (fun i y => ∃ U, y = (nI U, nI (fb_ct m.testBit i), nI i) ∧ U < 4096 ∧ (∀ b, U.testBit b = true ↔ ∃ j, j < i ∧ m.testBit j = true ∧ (innN x d st j).testBit b = true) ∧ gd (fitB x a len val wc) (innN x d st) m i) (fun r => (r = .inl 0 ∧ ¬ gd (fitB x a len val wc) (innN x d st) m c) ∨ (r = .inr (nI (pcn m)) ∧ gd (fitB x a len val wc) (innN x d st) m c)) c (by
    rintro i y hi ⟨U, rfl, u1, u2, u3⟩
    unfold jb_X6_proves_9 jj_X6_proves_89 jj_X6_proves_90 jj_X6_proves_117
    dsimp only
    rw [l3]
    by_cases ce : i = c
    · subst ce
      exact Or.inr ⟨_, if_pos (nI_le (Nat.le_refl _) (by omega)), Or.inr ⟨by rw [pcn_c hm (by omega)], u3⟩⟩
    have hi2 : i < c := by omega
    have hi8 : i < 8 := by omega
    obtain ⟨⟨a1, a2, a3, a4⟩, ⟨b1, b2, b3⟩, c1, c2, c3, c4, c5⟩ := l4 i hi2
    have hwl := c1 (len i - 1) (by omega)
    have e12 : 12 * nI i + nI (len i) - 1 = nI (12 * i + (len i - 1)) := by
      rw [mul12', show nI (12 * i + len i) - 1 = nI (12 * i + len i - 1) from pk_sub (b := 1) (by omega), show 12 * i + len i - 1 = 12 * i + (len i - 1) by omega]
    rw [if_neg (nI_ge hi2 (by omega)), mb_has hm31 (by omega), dp_bd_some, setof hL hi2, dp_bd_some, h3, innM hd hx c3, dp_bd_some, if_pos (dp_inb_nI hi8 (by decide)), if_pos (dp_inb_nI hi8 (by decide)), nI_clamp (show i < 2 ^ 31 by omega), a4, b3, e12, if_pos (dp_inb_nI (show 12 * i + (len i - 1) < 96 by omega) (by decide)), nI_clamp (show 12 * i + (len i - 1) < 2 ^ 31 by omega), hwl.2.2, i00, i10, nI_1, nI_1, fb_ct_succ]
    have hin : st i ^^^ (st i &&& (2 ^ x ||| 2 ^ d)) = innN x d st i := rfl
    rw [hin]
    have hil : innN x d st i < 4096 := inn_lt c3 _
    by_cases hb : m.testBit i = true
    rotate_left
    · rw [if_neg hb, i00, if_neg hb]
      refine Or.inl ⟨_, rfl, hi2, U, rfl, u1, or_skip u2 hb, fun k hk hz => ?_, pd_skip u3.2 hb⟩
      by_cases e : k = i
      · subst e; exact absurd hz hb
      · exact u3.1 k (by omega) hz
    rw [if_pos hb, i10, if_pos hb, fa_and, fa_or]
    have nofit : ¬ (val i = a ∧ wc (12 * i + (len i - 1)) = x) → ¬ gd (fitB x a len val wc) (innN x d st) m c := fun z g => z (of_decide_eq_true (g.1 i hi2 hb))
    by_cases ev : val i = a
    rotate_left
    · rw [if_neg (fun z => ev (nI_inj (by omega) (by omega) z))]
      exact Or.inr ⟨_, rfl, Or.inl ⟨rfl, nofit (fun z => ev z.1)⟩⟩
    rw [if_pos (by rw [ev])]
    by_cases ew : wc (12 * i + (len i - 1)) = x
    rotate_left
    · rw [if_neg (fun z => ew (nI_inj (by omega) (by omega) z))]
      exact Or.inr ⟨_, rfl, Or.inl ⟨rfl, nofit (fun z => ew z.2)⟩⟩
    rw [if_pos (by rw [ew])]
    by_cases hz : U &&& innN x d st i = 0
    · rw [if_pos (by rw [hz]; rfl)]
      refine Or.inl ⟨_, rfl, hi2, _, rfl, or12 u1 hil, or_step u2 hb rfl, fun k hk hzk => ?_, pd_yes u2 u3.2 hz⟩
      by_cases e : k = i
      · subst e; exact decide_eq_true ⟨ev, ew⟩
      · exact u3.1 k (by omega) hzk
    · rw [if_neg (nz (s31 (and12 u1)) hz)]
      exact Or.inr ⟨_, rfl, Or.inl ⟨rfl, fun g => pd_no u2 hb hi2 hz g.2⟩⟩) dp_F 0 (0, 0, 0) (Nat.zero_le _) (dp_F_lt (by omega) 0) ⟨0, rfl, by decide, fun b => by simp, fun k hk => absurd hk (Nat.not_lt_zero k), fun p q h1 h2 => by omega⟩
  rw [e1, dp_bd_some]
  rcases he with ⟨rfl, z⟩ | ⟨rfl, z⟩
  · exact ⟨_, rfl, fun y => absurd y z, fun _ => rfl⟩
  · exact ⟨_, rfl, fun _ => rfl, fun y => absurd z y⟩
theorem most_model (hL : VL σ μ d c len val st wc) (h3 : μ.1 3 = nI d) (hd : d < 12) (hx : x < 12) (ha : a < 4) : ∃ B, j_X6_proofOf μ (nI x) (nI a) = some (nI B) ∧ (∃ m, m < 2 ^ c ∧ gd (fitB x a len val wc) (innN x d st) m c ∧ pcn m = B) ∧ ∀ m, m < 2 ^ c → gd (fitB x a len val wc) (innN x d st) m c → pcn m ≤ B := by
  obtain ⟨⟨l1, l2, l3⟩, l4⟩ := id hL
  have hp : 2 ^ c ≤ 2 ^ 8 := Nat.pow_le_pow_right (n := 2) (by decide) l1
  have hp1 : 1 ≤ 2 ^ c := Nat.one_le_two_pow
  unfold j_X6_proofOf
  obtain ⟨r, e1, B, rfl, h1, h2⟩ := dp_run (b := jb_X6_proofOf_5 μ (nI x) (nI a)) (fun q y => ∃ B, y = (nI B, nI q) ∧ (∃ m, m < 2 ^ c ∧ gd (fitB x a len val wc) (innN x d st) m c ∧ pcn m = B) ∧ ∀ m, m < q → gd (fitB x a len val wc) (innN x d st) m c → pcn m ≤ B) (fun r => ∃ B, r = nI B ∧ (∃ m, m < 2 ^ c ∧ gd (fitB x a len val wc) (innN x d st) m c ∧ pcn m = B) ∧ ∀ m, m < 2 ^ c → gd (fitB x a len val wc) (innN x d st) m c → pcn m ≤ B) (2 ^ c) (by
    rintro q y hq ⟨B, rfl, ⟨m0, b1, b2, b3⟩, b4⟩
    have hB : B ≤ 12 := by rw [← b3]; exact pcn_le m0
    unfold jb_X6_proofOf_5 jj_X6_proofOf_38
    dsimp only
    rw [l3, mb_one c (by omega)]
    by_cases ce : q = 2 ^ c
    · subst ce
      exact Or.inr ⟨_, if_pos (nI_le (Nat.le_refl _) (by omega)), B, rfl, ⟨m0, b1, b2, b3⟩, b4⟩
    have hq2 : q < 2 ^ c := by omega
    have hql := pcn_le q
    obtain ⟨r, g1, g2, g3⟩ := proves hL h3 hd hx ha hq2
    rw [if_neg (nI_ge hq2 (by omega)), g1, dp_bd_some, nI_1]
    have keep : (gd (fitB x a len val wc) (innN x d st) q c → pcn q ≤ B) → ∃ x', (some (.inl (nI B, nI (q + 1))) : Option ((Int32 × Int32) ⊕ Int32)) = some (.inl x') ∧ q < 2 ^ c ∧ ∃ B, x' = (nI B, nI (q + 1)) ∧ (∃ m, m < 2 ^ c ∧ gd (fitB x a len val wc) (innN x d st) m c ∧ pcn m = B) ∧ ∀ m, m < q + 1 → gd (fitB x a len val wc) (innN x d st) m c → pcn m ≤ B := fun z => ⟨_, rfl, hq2, B, rfl, ⟨m0, b1, b2, b3⟩, fun m hm hpm => by
      by_cases e : m = q
      · subst e; exact z hpm
      · exact b4 m (by omega) hpm⟩
    by_cases c2 : gd (fitB x a len val wc) (innN x d st) q c
    · rw [g2 c2]
      by_cases c1 : pcn q ≤ B
      · rw [if_pos (nI_le c1 (by omega))]
        exact Or.inl (keep (fun _ => c1))
      rw [if_neg (nI_ge (show B < pcn q by omega) (by omega))]
      refine Or.inl ⟨_, rfl, hq2, pcn q, rfl, ⟨q, hq2, c2, rfl⟩, fun m hm hpm => ?_⟩
      by_cases e : m = q
      · subst e; exact Nat.le_refl _
      · have := b4 m (by omega) hpm; omega
    · rw [g3 c2, if_pos (show (0 : Int32) ≤ nI B from nI_le (a := 0) (Nat.zero_le _) (by omega))]
      exact Or.inl (keep (fun z => absurd z c2))) dp_F 0 (0, 0) (Nat.zero_le _) (dp_F_lt (by omega) 0) ⟨0, rfl, ⟨0, by omega, ⟨fun k _ z => by simp at z, fun p q _ _ z => by simp at z⟩, pcn0⟩, fun m hm => absurd hm (Nat.not_lt_zero m)⟩
  rw [e1, dp_bd_some]
  exact ⟨B, rfl, h1, h2⟩
theorem proof_rel (hL : VL σ μ d c len val st wc) (h3 : μ.1 3 = nI d) (hd : d < 12) (hx : x < 12) (ha : a < 4) : ∃ r σ', j_X0_mostApart σ (nI x) (nI a) = some (r, σ') ∧ j_X6_proofOf μ (nI x) (nI a) = some r ∧ σ'.1 = σ.1 ∧ ∀ q, q ≠ 12 → σ'.2 q = σ.2 q := by
  obtain ⟨σ', e1, g1, g2, g3⟩ := gather hL hd hx ha
  have l1 := hL.1.1
  have hst : ∀ k, k < c → innN x d st k < 4096 := fun k hk => inn_lt (hL.2 k hk).2.2.2.2.1 _
  have hI : ∀ k, k < c → fitB x a len val wc k = true → nn (σ'.2 12 (fb_ct (fitB x a len val wc) k)) = innN x d st k := fun k hk hf => by rw [g3 k hk hf, nn_nI (s31 (hst k hk))]
  have hI2 : ∀ i, i < fb_ct (fitB x a len val wc) c → nn (σ'.2 12 i) < 4096 ∧ σ'.2 12 i = nI (nn (σ'.2 12 i)) := by
    intro i hi
    obtain ⟨k, k1, k2, k3⟩ := fb_ct_kth hi
    subst k3
    rw [hI k k1 k2]
    exact ⟨hst k k1, g3 k k1 k2⟩
  have hf := fb_ct_le (fitB x a len val wc) c
  obtain ⟨B, b1, ⟨m1, m2, m3, m4⟩, b2⟩ := most_class (s := σ') (I := fun i => nn (σ'.2 12 i)) (show fb_ct (fitB x a len val wc) c ≤ 8 by omega) hI2
  obtain ⟨C, p1, ⟨q1, q2, q3, q4⟩, p2⟩ := most_model hL h3 hd hx ha
  have heq : B = C := by
    obtain ⟨u1, u2, u3, u4⟩ := best_1 (I := fun i => nn (σ'.2 12 i)) l1 hI m2 m3
    obtain ⟨v1, v2, v3, v4⟩ := best_2 (I := fun i => nn (σ'.2 12 i)) l1 hI q2 q3
    have := p2 u1 u2 u3
    have := b2 v1 v2 v3
    omega
  subst heq
  unfold j_X0_mostApart
  rw [e1, dp_bd_some, b1, dp_bd_some]
  exact ⟨_, σ', rfl, p1, g1, g2⟩
theorem RR.inner (hR : RR σ μ) (h1 : σ'.1 = σ.1) (h2 : ∀ q, q ≠ 12 → σ'.2 q = σ.2 q) : RR σ' μ := by
  have hR0 := hR
  obtain ⟨n, w, h, d, v, k, L, hV, -, -, -, hW, hL⟩ := hR
  refine hR0.wl (fun k _ _ _ => by rw [h1]) (fun a _ _ _ _ _ h12 => h2 a h12) (fun _ _ _ => rfl) (fun _ _ _ _ _ => rfl) (fun d' hd' hd2 => ?_)
  have : d' = d := nI_inj (by omega) (by have := hV.1.2.1; have := hV.1.2.2.2.2.2.1; omega) (hd'.symm.trans hV.2.1.2.2.2.1)
  subst this
  exact ⟨hW.cg (by rw [h1]) (by rw [h1]) rfl (h2 7 (by decide)) rfl, hL.cg (by rw [h1]) rfl (h2 8 (by decide)) (h2 9 (by decide)) (h2 10 (by decide)) (h2 11 (by decide)) rfl rfl rfl⟩
theorem sim_proof (hR : RR σ μ) (b e : Int32) : ∃ r σ', j_X5_proof σ b e = some (r, σ') ∧ j_X6_proof μ b e = some r ∧ RR σ' μ := by
  have hR0 := hR
  obtain ⟨n, w, h, d, v, k, L, hV, -, -, -, -, ⟨c, len, val, st, wc, hL⟩⟩ := hR
  have hn := hV.1.2.1
  have hd := hV.1.2.2.2.2.2.1
  unfold j_X5_proof j_X6_proof
  rcases in_node hV b with ⟨i, hi, rfl, e1, e2⟩ | ⟨e1, e2⟩
  rotate_left
  · rw [e1, e2, dp_bd_some, dp_bd_some, i00, i00]
    exact ⟨-1, σ, rfl, rfl, hR0⟩
  rw [e1, e2, dp_bd_some, dp_bd_some, i10, i10]
  rcases in_val e with ⟨a, ha, rfl, e3, e4⟩ | ⟨-, e3, e4⟩
  rotate_left
  · rw [e3, e4, dp_bd_some, dp_bd_some, i00, i00]
    exact ⟨-2, σ, rfl, rfl, hR0⟩
  rw [e3, e4, dp_bd_some, dp_bd_some, i10, i10]
  obtain ⟨r, σ', g1, g2, g3, g4⟩ := proof_rel hL hV.2.2.1.2.2.2.1 (show d < 12 by omega) (show i < 12 by omega) ha
  rw [g1, g2, dp_bd_some, dp_bd_some]
  exact ⟨r, σ', rfl, rfl, hR0.inner g3 g4⟩
theorem sim_believes (hR : RR σ μ) (b : Int32) : ∃ r σ', j_X5_believes σ b = some (r, σ') ∧ j_X6_believes μ b = some r ∧ RR σ' μ := by
  have hR0 := hR
  obtain ⟨n, w, h, d, v, k, L, hV, -⟩ := hR
  have hn := hV.1.2.1
  have hd := hV.1.2.2.2.2.2.1
  unfold j_X5_believes j_X6_believes j_X0_soleGreatest
  rcases in_node hV b with ⟨i, hi, rfl, e1, e2⟩ | ⟨e1, e2⟩
  rotate_left
  · rw [e1, e2, dp_bd_some, dp_bd_some, i00, i00]
    exact ⟨-1, σ, rfl, rfl, hR0⟩
  rw [e1, e2, dp_bd_some, dp_bd_some, i10, i10, hV.2.1.2.2.2.2.2, hV.2.2.1.2.2.2.2.2]
  obtain ⟨⟨rs, r1, r2⟩, ⟨q1, q2⟩, f1, f2, h1, h2, h3⟩ := dp_rel (b1 := jb_X0_soleGreatest_9 (nI i) (nI k)) (b2 := jb_X6_believes_18 μ (nI i)) (fun j x y => x.2.1 = y.2.1 ∧ x.2.2.1 = y.1 ∧ x.2.2.2 = nI j ∧ y.2.2 = nI j ∧ RR x.1 μ) (fun r q => r.2.1 = q.2 ∧ r.2.2 = q.1 ∧ RR r.1 μ) 4 (by
    rintro j ⟨x, bx, hx, jx⟩ ⟨hy, bY, jy⟩ hj ⟨p1, p2, p3, p4, p5⟩
    dsimp only at p1 p2 p3 p4 p5
    subst p1 p2 p3 p4
    unfold jb_X0_soleGreatest_9 jb_X6_believes_18 jj_X6_believes_56 jj_X6_believes_69 jj_X0_soleGreatest_50
    dsimp only
    by_cases ce : j = 4
    · subst ce
      exact Or.inr ⟨_, _, if_pos (show (4 : Int32) ≤ nI 4 by decide), if_pos (show (4 : Int32) ≤ nI 4 by decide), rfl, rfl, p5⟩
    have p5' := p5
    obtain ⟨n', w', h', d', v', k', L', hV', -, -, -, -, ⟨c, len, val, st, wc, hL⟩⟩ := p5
    have hn' := hV'.1.2.1
    have hd' := hV'.1.2.2.2.2.2.1
    obtain ⟨r, σ', g1, g2, g3, g4⟩ := proof_rel hL hV'.2.2.1.2.2.2.1 (show d' < 12 by omega) (show i < 12 by omega) (show j < 4 by omega)
    rw [if_neg (show ¬ (4 : Int32) ≤ nI j from nI_ge (b := 4) (by omega) (by decide)), if_neg (show ¬ (4 : Int32) ≤ nI j from nI_ge (b := 4) (by omega) (by decide)), g1, g2, dp_bd_some, dp_bd_some, nI_1]
    have hR' := p5'.inner g3 g4
    by_cases c1 : r = bx
    · subst c1
      rw [if_pos rfl, if_pos (show r ≤ r by rw [i_le]; omega), if_pos rfl, if_pos (show r ≤ r by rw [i_le]; omega)]
      exact Or.inl ⟨_, _, rfl, rfl, by omega, rfl, rfl, rfl, rfl, hR'⟩
    · rw [if_neg c1]
      by_cases c2 : r ≤ bx
      · rw [if_pos c2, if_pos c2, if_neg c1, if_pos c2]
        exact Or.inl ⟨_, _, rfl, rfl, by omega, rfl, rfl, rfl, rfl, hR'⟩
      · rw [if_neg c2, if_neg c2, if_neg c2]
        exact Or.inl ⟨_, _, rfl, rfl, by omega, rfl, rfl, rfl, rfl, hR'⟩) dp_F 0 (σ, 0, -9, 0) (-9, 0, 0) (Nat.zero_le _) (dp_F_lt (by decide) 0) ⟨rfl, rfl, rfl, rfl, hR0⟩
  dsimp only at h1 h2 h3
  subst h1 h2
  rw [f1, f2, dp_bd_some, dp_bd_some]
  dsimp only
  by_cases z : r1 < nI k
  · rw [if_pos z, if_pos z, dp_bd_some]
    exact ⟨_, rs, rfl, rfl, h3⟩
  · rw [if_neg z, if_neg z, dp_bd_some]
    exact ⟨_, rs, rfl, rfl, h3⟩
end PF
