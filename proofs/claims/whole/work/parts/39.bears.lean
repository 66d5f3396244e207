/-! ===== 39: bears; named cuts ===== -/
def stops (n d : Nat) (L : Nat → Nat) (q b : Nat) : Prop := thin n L q b ∧ cutN n d L q b ≠ 0
def noneS (n d : Nat) (L : Nat → Nat) (b : Nat) : Prop := ∀ q, q < 2 ^ n → q.testBit d = false → ¬ stops n d L q b
section BE
variable {σ σ' μ μ' s m : dp_Z} {n w h d v k q b : Nat} {L : Nat → Nat}
theorem cut_bit (i : Nat) : (cutN n d L q b).testBit i = ((2 ^ n - 1).testBit i && !q.testBit i && !(rch n d L q b).testBit i) := by
  unfold cutN
  simp only [Nat.testBit_xor, Nat.testBit_and]
  cases (2 ^ n - 1).testBit i <;> cases q.testBit i <;> cases (rch n d L q b).testBit i <;> rfl
theorem stops_mono (hs : NV s n d L) (hn : n ≤ 12) (hd : d < n) (hq : q.testBit d = false) {b b' : Nat} (hb : b ≤ b') (h : stops n d L q b) : stops n d L q b' := by
  refine ⟨fun i hi hz => Nat.lt_of_lt_of_le (h.1 i hi hz) hb, fun e => h.2 ?_⟩
  have r1 := rch_closed (b := b) hn (show d < 12 by omega) hs.2.2 hq
  have r2 := rch_closed (b := b') hn (show d < 12 by omega) hs.2.2 hq
  have hsub : sub (rch n d L q b') (rch n d L q b) := r2.2.2 _ (fun i hi hz hc => r1.1 i hi hz (Nat.le_trans hb hc)) r1.2.1
  apply Nat.eq_of_testBit_eq
  intro i
  rw [cut_bit]
  have h0 := congrArg (fun z => z.testBit i) e
  simp only [cut_bit, Nat.zero_testBit] at h0
  rw [Nat.zero_testBit]
  cases hz : (rch n d L q b').testBit i with
  | true => rw [hsub i hz]; simp
  | false =>
    rw [hz] at h0
    simp only [Bool.not_false, Bool.and_true] at h0
    rw [h0]
    rfl
theorem none_mono (hs : NV s n d L) (hn : n ≤ 12) (hd : d < n) {b b' : Nat} (hb : b ≤ b') (h : noneS n d L b') : noneS n d L b := fun q h1 h2 h3 => h q h1 h2 (stops_mono hs hn hd h2 hb h3)
theorem gb_in (hs : NV s n d L) (hn : n ≤ 12) (hd : d < n) {t β : Nat} (ht : t < 2 ^ n) (hβ : β ≤ 6) : ∃ β', dp_loop (jb_X2_greatestBorne_13 s (nI t)) dp_F (nI β) = some (nI β') ∧ β' ≤ β ∧ (β' = β ∨ (t.testBit d = false ∧ stops n d L t (β' + 1))) ∧ (β' = 0 ∨ ¬ (t.testBit d = false ∧ stops n d L t β')) := by
  have ht12 := n12 hn ht
  obtain ⟨r, e1, β', rfl, h1⟩ := dp_run (b := jb_X2_greatestBorne_13 s (nI t)) (fun i x => x = nI (β - i) ∧ (i = 0 ∨ (t.testBit d = false ∧ stops n d L t (β - i + 1)))) (fun r => ∃ β', r = nI β' ∧ β' ≤ β ∧ (β' = β ∨ (t.testBit d = false ∧ stops n d L t (β' + 1))) ∧ (β' = 0 ∨ ¬ (t.testBit d = false ∧ stops n d L t β'))) β (by
    rintro i x hi ⟨rfl, hst⟩
    have hst2 : β - i = β ∨ (t.testBit d = false ∧ stops n d L t (β - i + 1)) := by
      rcases hst with z | z
      · exact Or.inl (by omega)
      · exact Or.inr z
    unfold jb_X2_greatestBorne_13
    by_cases c : β - i = 0
    · rw [c, if_pos (show nI 0 ≤ (0 : Int32) from nI_le (b := 0) (Nat.le_refl _) (by decide))]
      exact Or.inr ⟨_, rfl, 0, rfl, by omega, by rw [c] at hst2; exact hst2, Or.inl rfl⟩
    rw [if_neg (show ¬ nI (β - i) ≤ (0 : Int32) from nI_nle (by omega) (by omega)), set_class hs hn hd (by omega), dp_bd_some]
    have out : ¬ (t.testBit d = false ∧ stops n d L t (β - i)) → ∃ r, (some (.inr (nI (β - i))) : Option (Int32 ⊕ Int32)) = some (.inr r) ∧ ∃ β', r = nI β' ∧ β' ≤ β ∧ (β' = β ∨ (t.testBit d = false ∧ stops n d L t (β' + 1))) ∧ (β' = 0 ∨ ¬ (t.testBit d = false ∧ stops n d L t β')) := fun z => ⟨_, rfl, β - i, rfl, by omega, hst2, Or.inr z⟩
    by_cases hz : t.testBit d = false
    rotate_left
    · rw [if_neg (show ¬ (t < 2 ^ n ∧ t.testBit d = false) from fun z => hz z.2), i00]
      exact Or.inr (out (fun z => hz z.1))
    · rw [if_pos (show t < 2 ^ n ∧ t.testBit d = false from ⟨ht, hz⟩), i10]
      unfold j_X2_isThin
      obtain ⟨rc, g1, -, g3⟩ := cr_rel (b := β - i) hs hs hn ht12 (by omega)
      rw [g1, dp_bd_some]
      by_cases c9 : rc = -9
      · rw [if_pos c9, dp_bd_some, i10, cut_class hs hn (show d < 12 by omega) ht12 (by omega), dp_bd_some]
        by_cases c0 : cutN n d L t (β - i) = 0
        · rw [if_pos (show nI (cutN n d L t (β - i)) = 0 by rw [c0]; rfl)]
          exact Or.inr (out (fun z => z.2.2 c0))
        · rw [if_neg (nz (s31 (cut_lt hn)) c0)]
          refine Or.inl ⟨_, rfl, by omega, ?_, Or.inr ⟨hz, ?_⟩⟩
          · have e : β - i = (β - (i + 1)) + 1 := by omega
            rw [e]
            exact pk_m1 _
          · rw [show β - (i + 1) + 1 = β - i by omega]
            exact ⟨g3.mp c9, c0⟩
      · rw [if_neg c9, dp_bd_some, i00]
        exact Or.inr (out (fun z => c9 (g3.mpr z.2.1)))) dp_F 0 (nI β) (Nat.zero_le _) (dp_F_lt (by omega) 0) ⟨rfl, Or.inl rfl⟩
  exact ⟨β', e1, h1⟩
theorem gb_class (hs : NV s n d L) (hn : n ≤ 12) (hd : d < n) : ∃ β, j_X2_greatestBorne s = some (if β = 0 then -9 else nI β) ∧ β ≤ 6 ∧ (∀ b, 1 ≤ b → b ≤ β → noneS n d L b) ∧ (β = 6 ∨ ¬ noneS n d L (β + 1)) := by
  have hp : 2 ^ n ≤ 4096 := Nat.pow_le_pow_right (n := 2) (by decide) hn
  have hp1 : 1 ≤ 2 ^ n := Nat.one_le_two_pow
  unfold j_X2_greatestBorne
  obtain ⟨r, e1, β, rfl, h1, h2, h3⟩ := dp_run (b := jb_X2_greatestBorne_5 s) (fun t x => ∃ β, x = (nI β, nI t) ∧ β ≤ 6 ∧ (∀ q, q < t → q.testBit d = false → ∀ b, 1 ≤ b → b ≤ β → ¬ stops n d L q b) ∧ (β = 6 ∨ ¬ noneS n d L (β + 1))) (fun r => ∃ β, r = nI β ∧ β ≤ 6 ∧ (∀ q, q < 2 ^ n → q.testBit d = false → ∀ b, 1 ≤ b → b ≤ β → ¬ stops n d L q b) ∧ (β = 6 ∨ ¬ noneS n d L (β + 1))) (2 ^ n) (by
    rintro t x ht ⟨β, rfl, b1, b2, b3⟩
    unfold jb_X2_greatestBorne_5 j_X2_all
    dsimp only
    rw [hs.1, all_eq hn, dp_bd_some]
    by_cases c : t = 2 ^ n
    · subst c
      exact Or.inr ⟨_, if_pos (nI_lt (by omega) (by omega)), β, rfl, b1, b2, b3⟩
    have ht2 : t < 2 ^ n := by omega
    obtain ⟨β', g1, g2, g3, g4⟩ := gb_in hs hn hd ht2 b1
    rw [if_neg (nI_nlt (by omega) (by omega)), g1, dp_bd_some, nI_1]
    refine Or.inl ⟨_, rfl, ht2, β', rfl, by omega, fun q hq hz b hb1 hb2 hst => ?_, ?_⟩
    · by_cases e : q = t
      · subst e
        rcases g4 with z | z
        · omega
        · exact z ⟨hz, stops_mono hs hn hd hz hb2 hst⟩
      · exact b2 q (by omega) hz b hb1 (by omega) hst
    · rcases g3 with z | z
      · rw [z]; exact b3
      · exact Or.inr (fun y => y t ht2 z.1 z.2)) dp_F 0 (6, 0) (Nat.zero_le _) (dp_F_lt (by omega) 0) ⟨6, rfl, Nat.le_refl _, fun q hq => absurd hq (Nat.not_lt_zero q), Or.inl rfl⟩
  rw [e1, dp_bd_some]
  refine ⟨β, ?_, h1, fun b hb1 hb2 q hq hz => h2 q hq hz b hb1 hb2, h3⟩
  by_cases c : β = 0
  · subst c
    rfl
  · rw [if_neg (show ¬ nI β ≤ (0 : Int32) from nI_nle (by omega) (by omega)), if_neg c]
theorem m_tries (hm : NV m n d L) (hn : n ≤ 12) (hd : d < n) (hb : b < 2 ^ 31) : ∃ m', j_X6_triesSets m (nI b) = some m' ∧ (∀ k, k ≠ 8 → k ≠ 9 → k ≠ 10 → m'.1 k = m.1 k) ∧ m'.2 = m.2 ∧ (m'.1 10 = 0 ↔ noneS n d L b) := by
  have hp : 2 ^ n ≤ 4096 := Nat.pow_le_pow_right (n := 2) (by decide) hn
  have hp1 : 1 ≤ 2 ^ n := Nat.one_le_two_pow
  have hd12 : d < 12 := by omega
  unfold j_X6_triesSets
  simp only [dp_bd_some]
  obtain ⟨r, e1, he⟩ := dp_run (b := jb_X6_triesSets_17 (nI b))
    (fun t y => y.2 = nI t ∧ (∀ k, k ≠ 8 → k ≠ 9 → k ≠ 10 → y.1.1 k = m.1 k) ∧ y.1.2 = m.2 ∧ (∃ ws, ws < 4096 ∧ ws.testBit d = false ∧ y.1.1 8 = nI ws) ∧ ∃ c, c ≤ t ∧ y.1.1 10 = nI c ∧ (c = 0 ↔ ∀ q, q < t → q.testBit d = false → ¬ stops n d L q b))
    (fun r => (∀ k, k ≠ 8 → k ≠ 9 → k ≠ 10 → r.1 k = m.1 k) ∧ r.2 = m.2 ∧ (r.1 10 = 0 ↔ noneS n d L b)) (2 ^ n) (by
    rintro t ⟨y, cy⟩ ht ⟨rfl, a3, a4, ⟨ws, w1, w2, w4⟩, c, c1, c2, c3⟩
    dsimp only at a3 a4 w4 c2
    have hy : NV y n d L := ⟨by rw [a3 0 (by decide) (by decide) (by decide)]; exact hm.1, by rw [a3 3 (by decide) (by decide) (by decide)]; exact hm.2.1, by rw [a4]; exact hm.2.2⟩
    unfold jb_X6_triesSets_17
    dsimp only
    rw [hy.1, hy.2.1, mb_one n (by omega)]
    by_cases ce : t = 2 ^ n
    · subst ce
      refine Or.inr ⟨y, if_pos (nI_le (Nat.le_refl _) (by omega)), a3, a4, ?_⟩
      rw [c2]
      constructor
      · intro z
        exact c3.mp (nI_inj (by omega) (by decide) z)
      · intro z
        rw [c3.mpr z]
        rfl
    have ht2 : t < 2 ^ n := by omega
    have ht12 : t < 4096 := by omega
    rw [if_neg (nI_ge ht2 (by omega)), mb_has (by omega) (by omega), dp_bd_some]
    have no2 : ∀ z, jj_X6_triesSets_139 z (nI b) (nI t) = some (.inl (z, nI (t + 1))) := by intro z; unfold jj_X6_triesSets_139; rw [nI_1]
    have ext : ∀ (P : Nat → Prop), ((∀ q, q < t + 1 → P q) ↔ (∀ q, q < t → P q) ∧ P t) := by
      intro P
      constructor
      · intro z; exact ⟨fun q hq => z q (by omega), z t (by omega)⟩
      · intro z q hq
        by_cases e : q = t
        · subst e; exact z.2
        · exact z.1 q (by omega)
    have skip : ¬ (t.testBit d = false ∧ stops n d L t b) → ∃ y', (some (.inl (y, nI (t + 1))) : Option ((dp_Z × Int32) ⊕ dp_Z)) = some (.inl y') ∧ t < 2 ^ n ∧ y'.2 = nI (t + 1) ∧ (∀ k, k ≠ 8 → k ≠ 9 → k ≠ 10 → y'.1.1 k = m.1 k) ∧ y'.1.2 = m.2 ∧ (∃ ws, ws < 4096 ∧ ws.testBit d = false ∧ y'.1.1 8 = nI ws) ∧ ∃ c, c ≤ t + 1 ∧ y'.1.1 10 = nI c ∧ (c = 0 ↔ ∀ q, q < t + 1 → q.testBit d = false → ¬ stops n d L q b) := by
      intro z
      refine ⟨_, rfl, ht2, rfl, a3, a4, ⟨ws, w1, w2, w4⟩, c, by omega, c2, ?_⟩
      rw [ext (fun q => q.testBit d = false → ¬ stops n d L q b), c3]
      exact ⟨fun y => ⟨y, fun y1 y2 => z ⟨y1, y2⟩⟩, fun y => y.1⟩
    cases hz : t.testBit d with
    | true =>
      simp only [if_true, i10, no2]
      exact Or.inl (skip (by simp [hz]))
    | false =>
      simp only [Bool.false_eq_true, if_false, i00, if_true]
      obtain ⟨rc, -, g2, g3⟩ := cr_rel (b := b) hy hy hn ht12 hb
      rw [g2, dp_bd_some]
      by_cases c9 : rc = -9
      rotate_left
      · rw [if_neg c9, no2]
        exact Or.inl (skip (fun z => c9 (g3.mpr z.2.1)))
      have hy6 : NV (dp_sf y 9 (y.1 9 + 1)) n d L := hy
      rw [if_pos c9, dp_bd_some, cut_model hy6 hn hd12 ht12 hz hb, dp_bd_some]
      have hcl : cutN n d L t b < 4096 := cut_lt hn
      have hcw : cutN n d L ws b < 4096 := cut_lt hn
      have s10 : (dp_sf y 9 (y.1 9 + 1)).1 10 = nI c := by rw [sf_ne (by decide)]; exact c2
      have key : ∀ (e : Nat), (e = 0 ∧ cutN n d L t b = 0 ∨ e = 1 ∧ cutN n d L t b ≠ 0) → ∃ y', jj_X6_triesSets_78 (dp_sf y 9 (y.1 9 + 1)) (nI b) (nI t) (nI e) (nI c) = some (.inl y') ∧ t < 2 ^ n ∧ y'.2 = nI (t + 1) ∧ (∀ k, k ≠ 8 → k ≠ 9 → k ≠ 10 → y'.1.1 k = m.1 k) ∧ y'.1.2 = m.2 ∧ (∃ ws, ws < 4096 ∧ ws.testBit d = false ∧ y'.1.1 8 = nI ws) ∧ ∃ c, c ≤ t + 1 ∧ y'.1.1 10 = nI c ∧ (c = 0 ↔ ∀ q, q < t + 1 → q.testBit d = false → ¬ stops n d L q b) := by
        intro e he
        have hy8 : NV (dp_sf (dp_sf y 9 (y.1 9 + 1)) 10 (nI c + nI e)) n d L := hy
        have h8' : (dp_sf (dp_sf y 9 (y.1 9 + 1)) 10 (nI c + nI e)).1 8 = nI ws := by rw [sf_ne (by decide), sf_ne (by decide)]; exact w4
        have fin : ∀ u, u < 4096 → u.testBit d = false → ∃ y', (some (.inl (dp_sf (dp_sf (dp_sf y 9 (y.1 9 + 1)) 10 (nI c + nI e)) 8 (nI u), nI (t + 1))) : Option ((dp_Z × Int32) ⊕ dp_Z)) = some (.inl y') ∧ t < 2 ^ n ∧ y'.2 = nI (t + 1) ∧ (∀ k, k ≠ 8 → k ≠ 9 → k ≠ 10 → y'.1.1 k = m.1 k) ∧ y'.1.2 = m.2 ∧ (∃ ws, ws < 4096 ∧ ws.testBit d = false ∧ y'.1.1 8 = nI ws) ∧ ∃ c, c ≤ t + 1 ∧ y'.1.1 10 = nI c ∧ (c = 0 ↔ ∀ q, q < t + 1 → q.testBit d = false → ¬ stops n d L q b) := by
          intro u hu hud
          refine ⟨_, rfl, ht2, rfl, fun k h8 h9 h10 => ?_, a4, ⟨u, hu, hud, sf_eq⟩, c + e, by rcases he with ⟨z, -⟩ | ⟨z, -⟩ <;> omega, ?_, ?_⟩
          · dsimp only; rw [sf_ne h8, sf_ne h10, sf_ne h9]; exact a3 k h8 h9 h10
          · dsimp only; rw [sf_ne (by decide), sf_eq, nI_add]
          · rw [ext (fun q => q.testBit d = false → ¬ stops n d L q b)]
            rcases he with ⟨z1, z2⟩ | ⟨z1, z2⟩
            · rw [z1, Nat.add_zero, c3]
              exact ⟨fun y => ⟨y, fun _ y2 => y2.2 z2⟩, fun y => y.1⟩
            · rw [z1]
              exact ⟨fun y => absurd y (by omega), fun y => absurd ⟨g3.mp c9, z2⟩ (y.2 hz)⟩
        have m128 : jj_X6_triesSets_128 (dp_sf (dp_sf y 9 (y.1 9 + 1)) 10 (nI c + nI e)) (nI b) (nI t) = some (.inl (dp_sf (dp_sf (dp_sf y 9 (y.1 9 + 1)) 10 (nI c + nI e)) 8 (nI t), nI (t + 1))) := by
          unfold jj_X6_triesSets_128 jj_X6_triesSets_136
          rw [dp_bd_some, no2]
        have m132 : jj_X6_triesSets_132 (dp_sf (dp_sf y 9 (y.1 9 + 1)) 10 (nI c + nI e)) (nI b) (nI t) = some (.inl (dp_sf (dp_sf (dp_sf y 9 (y.1 9 + 1)) 10 (nI c + nI e)) 8 (nI ws), nI (t + 1))) := by
          unfold jj_X6_triesSets_132 jj_X6_triesSets_136
          rw [h8', dp_bd_some, no2]
        unfold jj_X6_triesSets_78
        rw [dp_bd_some, cut_model hy8 hn hd12 ht12 hz hb, dp_bd_some, mb_size (s31 hcl), dp_bd_some, h8', cut_model hy8 hn hd12 w1 w2 hb, dp_bd_some, mb_size (s31 hcw), dp_bd_some, mb_size (s31 ht12), mb_size (s31 w1), m128, m132]
        simp only [dp_bd_some]
        split
        · exact fin t ht12 hz
        · split
          · split
            · exact fin ws w1 w2
            · exact fin t ht12 hz
          · exact fin ws w1 w2
      rw [s10]
      by_cases c0 : cutN n d L t b = 0
      · rw [if_pos (show nI (cutN n d L t b) = 0 by rw [c0]; rfl)]
        exact Or.inl (key 0 (Or.inl ⟨rfl, c0⟩))
      · rw [if_neg (nz (s31 hcl) c0)]
        exact Or.inl (key 1 (Or.inr ⟨rfl, c0⟩))) dp_F 0 (dp_sf (dp_sf (dp_sf m 8 0) 9 0) 10 0, 0) (Nat.zero_le _) (dp_F_lt (by omega) 0) ⟨rfl, fun k h8 h9 h10 => by dsimp only; rw [sf_ne h10, sf_ne h9, sf_ne h8], rfl, ⟨0, by decide, by simp, rfl⟩, 0, Nat.le_refl _, rfl, ⟨fun _ q hq => absurd hq (Nat.not_lt_zero q), fun _ => rfl⟩⟩
  rw [e1]
  exact ⟨r, rfl, he⟩
theorem sim_bears (hR : RR σ μ) : ∃ r μ', j_X5_bears σ = some r ∧ j_X6_bears μ = some (r, μ') ∧ RR σ μ' := by
  have hR0 := hR
  obtain ⟨n, w, h, d, v, k, L, hV, -⟩ := hR
  have hn := hV.1.2.1
  have hd := hV.1.2.2.2.2.2.1
  have hs := hV.nv.1
  have hm := hV.nv.2
  unfold j_X5_bears j_X6_bears
  obtain ⟨β, g1, g2, g3, g4⟩ := gb_class hs hn hd
  obtain ⟨r, e1, h1, h2, γ, h3, h4, h5, h6⟩ := dp_run (b := jb_X6_bears_5)
    (fun i x => (∀ k, k ≠ 8 → k ≠ 9 → k ≠ 10 → x.1.1 k = μ.1 k) ∧ x.1.2 = μ.2 ∧ x.2.2 = nI (i + 1) ∧ ∃ γ, γ ≤ i ∧ x.2.1 = (if γ = 0 then -9 else nI γ) ∧ (∀ b, γ < b → b ≤ i → ¬ noneS n d L b) ∧ (γ = 0 ∨ noneS n d L γ))
    (fun r => (∀ k, k ≠ 8 → k ≠ 9 → k ≠ 10 → r.1.1 k = μ.1 k) ∧ r.1.2 = μ.2 ∧ ∃ γ, γ ≤ 6 ∧ r.2 = (if γ = 0 then -9 else nI γ) ∧ (∀ b, γ < b → b ≤ 6 → ¬ noneS n d L b) ∧ (γ = 0 ∨ noneS n d L γ)) 6 (by
    rintro i ⟨y, bst, c⟩ hi ⟨a3, a4, rfl, γ, c1, c2, c3, c4⟩
    dsimp only at a3 a4 c2
    subst c2
    unfold jb_X6_bears_5
    dsimp only
    by_cases ce : i = 6
    · subst ce
      exact Or.inr ⟨_, if_pos (show (6 : Int32) < nI 7 from nI_lt (a := 6) (by decide) (by decide)), a3, a4, γ, c1, rfl, c3, c4⟩
    rw [if_neg (show ¬ (6 : Int32) < nI (i + 1) from nI_nlt (a := 6) (by omega) (by decide))]
    have hy : NV y n d L := ⟨by rw [a3 0 (by decide) (by decide) (by decide)]; exact hm.1, by rw [a3 3 (by decide) (by decide) (by decide)]; exact hm.2.1, by rw [a4]; exact hm.2.2⟩
    obtain ⟨y', f1, f2, f3, f4⟩ := m_tries (b := i + 1) hy hn hd (by omega)
    have hjj : ∀ t, jj_X6_bears_28 y' (nI (i + 1)) t = some (.inl (y', t, nI (i + 1 + 1))) := by intro t; unfold jj_X6_bears_28; rw [nI_1]
    rw [f1, dp_bd_some, hjj, hjj]
    by_cases cz : y'.1 10 = 0
    · rw [if_pos cz]
      refine Or.inl ⟨_, rfl, by omega, fun k h8 h9 h10 => (f2 k h8 h9 h10).trans (a3 k h8 h9 h10), f3.trans a4, rfl, i + 1, Nat.le_refl _, by rw [if_neg (by omega)], fun b hb1 hb2 => by omega, Or.inr (f4.mp cz)⟩
    · rw [if_neg cz]
      refine Or.inl ⟨_, rfl, by omega, fun k h8 h9 h10 => (f2 k h8 h9 h10).trans (a3 k h8 h9 h10), f3.trans a4, rfl, γ, by omega, rfl, fun b hb1 hb2 => ?_, c4⟩
      by_cases e : b = i + 1
      · subst e; exact fun z => cz (f4.mpr z)
      · exact c3 b hb1 (by omega)) dp_F 0 (μ, -9, 1) (Nat.zero_le _) (dp_F_lt (by decide) 0) ⟨fun _ _ _ _ => rfl, rfl, rfl, 0, Nat.le_refl _, rfl, fun b hb1 hb2 => by omega, Or.inl rfl⟩
  have eq : γ = β := by
    rcases Nat.lt_trichotomy γ β with z | z | z
    · exact absurd (g3 β (by omega) (Nat.le_refl _)) (h5 β z g2)
    · exact z
    · rcases g4 with y | y
      · omega
      · rcases h6 with x | x
        · omega
        · exact absurd (none_mono hs hn hd (show β + 1 ≤ γ by omega) x) y
  subst eq
  obtain ⟨rs, rb⟩ := r
  dsimp only at h1 h2 h4
  subst h4
  rw [g1, e1, dp_bd_some, dp_bd_some]
  exact ⟨_, rs, rfl, rfl, hR0.cg (fun _ _ _ _ _ => rfl) rfl h1 h2⟩
theorem sim_named (hR : RR σ μ) (a : Int32) : ∃ r, j_X5_named σ a = some r ∧ j_X6_named μ a = some r := by
  obtain ⟨n, w, h, d, v, k, L, -, -, -, ⟨c, c1, c2, c3, c4⟩, -⟩ := hR
  unfold j_X5_named j_X6_named
  rw [c2, c3]
  by_cases h0 : a < 0
  · rw [if_pos h0]
    unfold j_X6_within
    rw [if_pos h0, dp_bd_some, i00]
    exact ⟨_, rfl, rfl⟩
  · rw [if_neg h0]
    obtain ⟨j, hj, rfl⟩ := nI_of h0
    unfold j_X6_within
    rw [if_neg h0]
    by_cases hc : j < c
    · have e : nI c - 1 = nI (c - 1) := pk_sub (b := 1) (by omega)
      rw [if_neg (nI_ge hc (by omega)), e, if_neg (nI_nlt (by omega) (by omega)), dp_bd_some, i10, if_pos (dp_inb_nI (by omega) (by decide)), if_pos (dp_inb_nI (by omega) (by decide)), nI_clamp hj, c4 j hc]
      exact ⟨_, rfl, rfl⟩
    · rw [if_pos (nI_le (by omega) hj), if_pos, dp_bd_some, i00]
      · exact ⟨_, rfl, rfl⟩
      · rw [i_lt, nI_toInt hj]
        have : (nI c - 1).toInt = (c : Int) - 1 := pk_sub_toInt (a := c) (b := 1) (by omega) (by decide)
        omega
theorem sh_name (hc : μ.1 11 = nI 6) {v2 : Int32} : ∃ m', dp_loop (jb_X6_name_67 v2) dp_F (μ, 1) = some m' ∧ m'.1 = μ.1 ∧ (∀ a, a ≠ 7 → m'.2 a = μ.2 a) ∧ ∀ i, i < 5 → m'.2 7 i = μ.2 7 (i + 1) := by
  obtain ⟨r, e1, he⟩ := dp_run (b := jb_X6_name_67 v2) (fun i x => x.2 = nI (i + 1) ∧ x.1.1 = μ.1 ∧ (∀ a, a ≠ 7 → x.1.2 a = μ.2 a) ∧ (∀ j, j < i → x.1.2 7 j = μ.2 7 (j + 1)) ∧ ∀ j, i ≤ j → x.1.2 7 j = μ.2 7 j) (fun r => r.1 = μ.1 ∧ (∀ a, a ≠ 7 → r.2 a = μ.2 a) ∧ ∀ i, i < 5 → r.2 7 i = μ.2 7 (i + 1)) 5 (by
    rintro i ⟨x, c⟩ hi ⟨rfl, h1, h2, h3, h4⟩
    unfold jb_X6_name_67
    dsimp only at h1 h2 h3 h4 ⊢
    by_cases z : i = 5
    · subst z
      exact Or.inr ⟨x, if_pos (show (6 : Int32) ≤ nI 6 from nI_le (a := 6) (Nat.le_refl _) (by decide)), h1, h2, h3⟩
    have e : nI (i + 1) - 1 = nI i := nI_pred i
    rw [if_neg (show ¬ (6 : Int32) ≤ nI (i + 1) from nI_ge (b := 6) (by omega) (by decide)), if_pos (dp_inb_nI (by omega) (by decide)), e, if_pos (dp_inb_nI (by omega) (by decide)), dp_bd_some, nI_clamp (by omega), nI_clamp (by omega), nI_1]
    refine Or.inl ⟨_, rfl, by omega, rfl, h1, fun a ha => (sr_ne ha).trans (h2 a ha), fun j hj => ?_, fun j hj => ?_⟩
    · dsimp only
      rw [sr_eq]
      by_cases y : j = i
      · subst y; rw [up_eq]; exact h4 _ (by omega)
      · rw [up_ne y]; exact h3 j (by omega)
    · dsimp only
      rw [sr_eq, up_ne (by omega)]; exact h4 j (by omega)) dp_F 0 (μ, 1) (Nat.zero_le _) (dp_F_lt (by decide) 0) ⟨rfl, rfl, fun _ _ => rfl, fun j hj => absurd hj (Nat.not_lt_zero j), fun _ _ => rfl⟩
  exact ⟨r, e1, he⟩
theorem sim_name (hR : RR σ μ) (a : Int32) : ∃ r σ' μ', j_X5_name σ a = some (r, σ') ∧ j_X6_name μ a = some (r, μ') ∧ RR σ' μ' := by
  have hR0 := hR
  obtain ⟨n, w, h, d, v, k, L, hV, hS, hT, ⟨c, c1, c2, c3, c4⟩, hW, hL⟩ := hR
  have hn := hV.1.2.1
  have hd := hV.1.2.2.2.2.2.1
  have hk := hV.1.2.2.2.2.2.2.2.2
  unfold j_X5_name j_X6_name
  rcases is_set hV a with ⟨j, h1, rfl, h2, e1, e2⟩ | ⟨e1, e2⟩
  rotate_left
  · simp only [e1, e2, dp_bd_some, i00]
    exact ⟨-2, σ, μ, rfl, rfl, hR0⟩
  rw [e1, e2, dp_bd_some, dp_bd_some, i10, i10, hV.2.1.2.2.2.2.2, hV.2.2.1.2.2.2.2.2, cut_class hV.nv.1 hn (show d < 12 by omega) (n12 hn h1) (show k < 2 ^ 31 by omega), cut_model hV.nv.2 hn (show d < 12 by omega) (n12 hn h1) h2 (show k < 2 ^ 31 by omega), dp_bd_some, dp_bd_some]
  by_cases c0 : nI (cutN n d L j k) = 0
  · rw [if_pos c0, if_pos c0]
    exact ⟨-3, σ, μ, rfl, rfl, hR0⟩
  rw [if_neg c0, if_neg c0]
  generalize nI (cutN n d L j k) = ct
  unfold j_X1_place
  obtain ⟨r, q, f1, f2, he⟩ := dp_rel (b1 := jb_X1_place_2 σ ct) (b2 := jb_X6_name_30 μ ct) (fun i x y => x = nI i ∧ y = nI i) (fun r q => (∃ i : Int32, r = .inl (i, σ) ∧ q = .inl (i, μ)) ∨ (r = .inr () ∧ q = .inr ())) c (by
    rintro i x y hi ⟨rfl, rfl⟩
    unfold jb_X1_place_2 jb_X6_name_30
    rw [c2, c3]
    by_cases z : i = c
    · subst z
      exact Or.inr ⟨_, _, if_pos (nI_le (Nat.le_refl _) (by omega)), if_pos (nI_le (Nat.le_refl _) (by omega)), Or.inr ⟨rfl, rfl⟩⟩
    have hi2 : i < c := by omega
    rw [if_neg (nI_ge hi2 (by omega)), if_neg (nI_ge hi2 (by omega)), if_pos (dp_inb_nI (by omega) (by decide)), if_pos (dp_inb_nI (by omega) (by decide)), nI_clamp (by omega), c4 i hi2]
    by_cases y : σ.2 6 i = ct
    · rw [if_pos y, if_pos y]
      exact Or.inr ⟨_, _, rfl, rfl, Or.inl ⟨_, rfl, rfl⟩⟩
    · rw [if_neg y, if_neg y, nI_1]
      exact Or.inl ⟨_, _, rfl, rfl, hi2, rfl, rfl⟩) dp_F 0 0 0 (Nat.zero_le _) (dp_F_lt (by omega) 0) ⟨rfl, rfl⟩
  rw [f1, f2, dp_bd_some]
  have put : ∀ (c : Nat) (s1 m1 : dp_Z), c ≤ 5 → s1.1 13 = nI c → m1.1 11 = nI c → (∀ i, i < c → m1.2 7 i = s1.2 6 i) → (∀ k, k ≠ 13 → s1.1 k = σ.1 k) → (∀ a, a ≠ 6 → s1.2 a = σ.2 a) → (∀ k, k ≠ 11 → m1.1 k = μ.1 k) → (∀ a, a ≠ 7 → m1.2 a = μ.2 a) → ∃ r σ' μ', (dp_bd (jj_X1_place_56 s1 ct) fun x3 => some (x3.1, x3.2)) = some (r, σ') ∧ jj_X6_name_103 m1 ct = some (r, μ') ∧ RR σ' μ' := by
    intro c s1 m1 hc p1 p2 p3 p4 p5 p6 p7
    unfold jj_X1_place_56 jj_X6_name_103
    rw [p1, p2, if_pos (dp_inb_nI (by omega) (by decide)), if_pos (dp_inb_nI (by omega) (by decide)), dp_bd_some, dp_bd_some, dp_bd_some, dp_bd_some, nI_clamp (by omega), dp_bd_some, sr_1, sr_1, p1, p2, sf_eq, sf_eq]
    have q4 : ∀ k, k ≠ 13 → (dp_sf (dp_sr s1 6 (upd (s1.2 6) c ct)) 13 (nI c + 1)).1 k = σ.1 k := fun k hk => by rw [sf_ne hk, sr_1]; exact p4 k hk
    have q5 : ∀ a, a ≠ 6 → (dp_sf (dp_sr s1 6 (upd (s1.2 6) c ct)) 13 (nI c + 1)).2 a = σ.2 a := fun a ha => by rw [sf_2, sr_ne ha]; exact p5 a ha
    have q6 : ∀ k, k ≠ 11 → (dp_sf (dp_sr m1 7 (upd (m1.2 7) c ct)) 11 (nI c + 1)).1 k = μ.1 k := fun k hk => by rw [sf_ne hk, sr_1]; exact p6 k hk
    have q7 : ∀ a, a ≠ 7 → (dp_sf (dp_sr m1 7 (upd (m1.2 7) c ct)) 11 (nI c + 1)).2 a = μ.2 a := fun a ha => by rw [sf_2, sr_ne ha]; exact p7 a ha
    refine ⟨_, _, _, rfl, rfl, n, w, h, d, v, k, L, ?_, ?_, ?_, ⟨c + 1, by omega, by rw [sf_eq, nI_1], by rw [sf_eq, nI_1], fun i hi => ?_⟩, hW.cg (q4 15 (by decide)) (q4 14 (by decide)) (q6 12 (by decide)) (q5 7 (by decide)) (q7 8 (by decide)), hL.cg (q4 16 (by decide)) (q6 13 (by decide)) (q5 8 (by decide)) (q5 9 (by decide)) (q5 10 (by decide)) (q5 11 (by decide)) (q7 9 (by decide)) (q7 10 (by decide)) (q7 11 (by decide))⟩
    · unfold VN at hV ⊢
      rw [q4 0 (by decide), q4 1 (by decide), q4 2 (by decide), q4 3 (by decide), q4 4 (by decide), q4 5 (by decide), q6 0 (by decide), q6 1 (by decide), q6 2 (by decide), q6 3 (by decide), q6 4 (by decide), q6 5 (by decide), q5 0 (by decide), q5 1 (by decide), q7 0 (by decide), q7 1 (by decide)]
      exact hV
    · unfold RS VS at hS ⊢
      rw [q4 6 (by decide), q6 6 (by decide), q5 2 (by decide), q7 2 (by decide)]
      exact hS
    · unfold RT VT at hT ⊢
      rw [q4 7 (by decide), q4 8 (by decide), q6 7 (by decide), q5 3 (by decide), q5 4 (by decide), q5 5 (by decide), q7 3 (by decide), q7 4 (by decide), q7 5 (by decide), q7 6 (by decide)]
      exact hT
    · rw [sf_2, sf_2, sr_eq, sr_eq]
      by_cases z : i = c
      · subst z; rw [up_eq, up_eq]
      · rw [up_ne z, up_ne z]; exact p3 i (by omega)
  rcases he with ⟨i, rfl, rfl⟩ | ⟨rfl, rfl⟩
  · exact ⟨i, σ, μ, rfl, rfl, hR0⟩
  · rw [c2, c3]
    show ∃ r σ' μ', (dp_bd (if nI c < 6 then jj_X1_place_56 σ ct else (if dp_cpk 1 0 5 6 6 = true then dp_bd (some (dp_sr σ 6 (va_cpy (σ.2 6) (σ.2 6) (1 : Int32).toNatClampNeg (0 : Int32).toNatClampNeg (5 : Int32).toNatClampNeg))) (fun s4 => dp_bd (some (dp_sf s4 13 5)) fun s5 => jj_X1_place_56 s5 ct) else none)) fun x3 => some (x3.1, x3.2)) = some (r, σ') ∧ (if nI c = 6 then dp_bd (dp_loop (jb_X6_name_67 ct) dp_F (μ, 1)) (fun x7 => dp_bd (some (dp_sf x7 11 (x7.1 11 - 1))) fun s8 => jj_X6_name_103 s8 ct) else jj_X6_name_103 μ ct) = some (r, μ') ∧ RR σ' μ'
    by_cases z : c = 6
    · subst z
      rw [if_neg (show ¬ nI 6 < (6 : Int32) by decide), if_pos (show nI 6 = (6 : Int32) from rfl), if_pos (show dp_cpk 1 0 5 6 6 = true by decide), dp_bd_some, dp_bd_some]
      obtain ⟨m', t1, t2, t3, t4⟩ := sh_name (v2 := ct) c3
      rw [t1, dp_bd_some, dp_bd_some]
      refine put 5 _ _ (Nat.le_refl _) sf_eq ?_ (fun i hi => ?_) (fun k hk => by rw [sf_ne hk, sr_1]) (fun a ha => by rw [sf_2, sr_ne ha]) (fun k hk => by rw [sf_ne hk, t2]) (fun a ha => by rw [sf_2]; exact t3 a ha)
      · rw [sf_eq, t2, c3]; rfl
      · rw [sf_2, sf_2, sr_eq, t4 i hi, c4 (i + 1) (by omega)]
        show σ.2 6 (i + 1) = if 0 ≤ i ∧ i < 0 + 5 then σ.2 6 (1 + (i - 0)) else σ.2 6 i
        rw [if_pos (by omega), Nat.sub_zero, Nat.add_comm]
    · rw [if_pos (show nI c < (6 : Int32) from nI_lt (b := 6) (by omega) (by decide)), if_neg (show ¬ nI c = (6 : Int32) from fun y => z (nI_inj (by omega) (show 6 < 2 ^ 31 by decide) y))]
      exact put c σ μ (by omega) c2 c3 c4 (fun _ _ => rfl) (fun _ _ => rfl) (fun _ _ => rfl) (fun _ _ => rfl)
end BE
