/-! ===== 45: what is told is kept ===== -/
theorem cpk12 : ((List.range 8).all fun c => dp_cpk 0 (nI c * 12) 12 12 96) = true := by decide +kernel
section TE
variable {σ σ' μ μ' : dp_Z} {n w h d v k sp : Nat} {L hd : Nat → Nat} {t hs c a : Nat} {ww : Nat → Nat} {len val st wc : Nat → Nat}
theorem keep_class (h16 : σ.1 16 = nI c) (hc : c ≤ 7) : ∃ σ', jj_X0_keep_13 σ (nI a) = some (nI (c + 1), σ') ∧ (∀ k, k ≠ 14 → k ≠ 15 → k ≠ 16 → σ'.1 k = σ.1 k) ∧ (σ'.1 14 = 0 ∧ σ'.1 15 = 0 ∧ σ'.1 16 = nI (c + 1)) ∧ (∀ a, a ≠ 8 → a ≠ 9 → a ≠ 10 → a ≠ 11 → σ'.2 a = σ.2 a) ∧ σ'.2 8 = va_cpy (σ.2 7) (σ.2 8) 0 (12 * c) 12 ∧ σ'.2 9 = upd (σ.2 9) c (σ.1 15) ∧ σ'.2 10 = upd (σ.2 10) c (σ.1 14) ∧ σ'.2 11 = upd (σ.2 11) c (nI a) := by
  unfold jj_X0_keep_13 j_X0_letGo
  have hk : dp_cpk 0 (nI c * 12) 12 12 96 = true := List.all_eq_true.mp cpk12 c (List.mem_range.mpr (by omega))
  have e12 : (nI c * 12).toNatClampNeg = 12 * c := by rw [show (12 : Int32) = nI 12 from rfl, pk_mul, nI_clamp (by omega), Nat.mul_comm]
  rw [h16, if_pos hk, dp_bd_some, e12, show (0 : Int32).toNatClampNeg = 0 from rfl, show (12 : Int32).toNatClampNeg = 12 from rfl]
  generalize hf : va_cpy (σ.2 7) (σ.2 8) 0 (12 * c) 12 = f
  rw [sr_1, h16, if_pos (dp_inb_nI (by omega) (by decide)), dp_bd_some, sr_1, sr_1, h16, if_pos (dp_inb_nI (by omega) (by decide)), dp_bd_some, sr_1, sr_1, sr_1, h16, if_pos (dp_inb_nI (by omega) (by decide))]
  simp only [dp_bd_some]
  rw [nI_clamp (by omega), sr_1, sr_1, sr_1, sr_1, h16, nI_1]
  rw [sr_ne (show (9 : Nat) ≠ 8 by decide), sr_ne (show (10 : Nat) ≠ 9 by decide), sr_ne (show (10 : Nat) ≠ 8 by decide), sr_ne (show (11 : Nat) ≠ 10 by decide), sr_ne (show (11 : Nat) ≠ 9 by decide), sr_ne (show (11 : Nat) ≠ 8 by decide)]
  refine ⟨_, by rw [sf_ne (show (16 : Nat) ≠ 14 by decide), sf_ne (show (16 : Nat) ≠ 15 by decide), sf_eq], fun k h1 h2 h3 => ?_, ⟨sf_eq, ?_, ?_⟩, fun a h1 h2 h3 h4 => ?_, ?_, ?_, ?_, ?_⟩
  · rw [sf_ne h1, sf_ne h2, sf_ne h3]; rfl
  · rw [sf_ne (by decide), sf_eq]
  · rw [sf_ne (by decide), sf_ne (by decide), sf_eq]
  · rw [sf_2, sf_2, sf_2, sr_ne h4, sr_ne h3, sr_ne h2, sr_ne h1]
  · rw [sf_2, sf_2, sf_2, sr_ne (by decide), sr_ne (by decide), sr_ne (by decide), sr_eq]
  · rw [sf_2, sf_2, sf_2, sr_ne (by decide), sr_ne (by decide), sr_eq]
  · rw [sf_2, sf_2, sf_2, sr_ne (by decide), sr_eq]
  · rw [sf_2, sf_2, sf_2, sr_eq]
theorem tell_loop (s : dp_Z) (h13 : s.1 13 = nI c) (h12 : s.1 12 = nI t) (hc : c ≤ 7) (ht : t ≤ 12) : ∃ s', dp_loop jb_X6_tell_69 dp_F (s, 0) = some s' ∧ s'.1 = s.1 ∧ (∀ a, a ≠ 11 → s'.2 a = s.2 a) ∧ ∀ j, s'.2 11 j = if 12 * c ≤ j ∧ j < 12 * c + t then s.2 8 (j - 12 * c) else s.2 11 j := by
  obtain ⟨r, e1, he⟩ := dp_run (b := jb_X6_tell_69) (fun i x => x.2 = nI i ∧ x.1.1 = s.1 ∧ (∀ a, a ≠ 11 → x.1.2 a = s.2 a) ∧ ∀ j, x.1.2 11 j = if 12 * c ≤ j ∧ j < 12 * c + i then s.2 8 (j - 12 * c) else s.2 11 j) (fun r => r.1 = s.1 ∧ (∀ a, a ≠ 11 → r.2 a = s.2 a) ∧ ∀ j, r.2 11 j = if 12 * c ≤ j ∧ j < 12 * c + t then s.2 8 (j - 12 * c) else s.2 11 j) t (by
    rintro i ⟨x, ix⟩ hi ⟨rfl, h1, h2, h3⟩
    dsimp only at h1 h2 h3
    unfold jb_X6_tell_69
    dsimp only
    rw [h1, h12, h13, mul12']
    by_cases ce : i = t
    · subst ce
      exact Or.inr ⟨_, if_pos (nI_le (Nat.le_refl _) (by omega)), h1, h2, h3⟩
    rw [if_neg (nI_ge (show i < t by omega) (by omega)), if_pos (dp_inb_nI (by omega) (by decide)), if_pos (dp_inb_nI (by omega) (by decide)), dp_bd_some, nI_clamp (show 12 * c + i < 2 ^ 31 by omega), nI_clamp (show i < 2 ^ 31 by omega), nI_1, h2 8 (by decide)]
    refine Or.inl ⟨_, rfl, by omega, rfl, h1, fun a ha => (sr_ne ha).trans (h2 a ha), fun j => ?_⟩
    dsimp only
    rw [sr_eq]
    by_cases e : j = 12 * c + i
    · subst e
      rw [up_eq, if_pos (by omega), Nat.add_sub_cancel_left]
    · rw [up_ne e, h3 j]
      by_cases y : 12 * c ≤ j ∧ j < 12 * c + i
      · rw [if_pos y, if_pos (by omega)]
      · rw [if_neg y, if_neg (by omega)]) dp_F 0 (s, 0) (Nat.zero_le _) (dp_F_lt (by omega) 0) ⟨rfl, rfl, fun _ _ => rfl, fun j => by rw [if_neg (by omega)]⟩
  exact ⟨r, e1, he⟩
theorem keep_model (h13 : μ.1 13 = nI c) (h12 : μ.1 12 = nI t) (hc : c ≤ 7) (ht : t ≤ 12) : ∃ μ', jj_X6_tell_44 μ (nI a) = some (nI (c + 1), μ') ∧ (∀ k, k ≠ 12 → k ≠ 13 → μ'.1 k = μ.1 k) ∧ (μ'.1 12 = 0 ∧ μ'.1 13 = nI (c + 1)) ∧ (∀ a, a ≠ 9 → a ≠ 10 → a ≠ 11 → μ'.2 a = μ.2 a) ∧ μ'.2 9 = upd (μ.2 9) c (nI a) ∧ μ'.2 10 = upd (μ.2 10) c (nI t) ∧ ∀ j, μ'.2 11 j = if 12 * c ≤ j ∧ j < 12 * c + t then μ.2 8 (j - 12 * c) else μ.2 11 j := by
  unfold jj_X6_tell_44
  rw [h13, if_pos (dp_inb_nI (by omega) (by decide)), dp_bd_some, sr_1, h13, if_pos (dp_inb_nI (by omega) (by decide)), dp_bd_some, nI_clamp (by omega), sr_ne (show (10 : Nat) ≠ 9 by decide), h12]
  obtain ⟨s', e1, g1, g2, g3⟩ := tell_loop (dp_sr (dp_sr μ 9 (upd (μ.2 9) c (nI a))) 10 (upd (μ.2 10) c (nI t))) h13 h12 hc ht
  have g13 : s'.1 13 = nI c := by rw [g1]; exact h13
  rw [e1, dp_bd_some, dp_bd_some, dp_bd_some, g13, nI_1]
  refine ⟨_, by rw [sf_ne (show (13 : Nat) ≠ 12 by decide), sf_eq], fun k h1 h2 => ?_, ⟨sf_eq, ?_⟩, fun a h1 h2 h3 => ?_, ?_, ?_, fun j => ?_⟩
  · rw [sf_ne h1, sf_ne h2, g1]; rfl
  · rw [sf_ne (by decide), sf_eq]
  · rw [sf_2, sf_2, g2 a h3, sr_ne h2, sr_ne h1]
  · rw [sf_2, sf_2, g2 9 (by decide), sr_ne (by decide), sr_eq]
  · rw [sf_2, sf_2, g2 10 (by decide), sr_eq]
  · rw [sf_2, sf_2, g3 j, sr_ne (show (8 : Nat) ≠ 10 by decide), sr_ne (show (8 : Nat) ≠ 9 by decide), sr_ne (show (11 : Nat) ≠ 10 by decide), sr_ne (show (11 : Nat) ≠ 9 by decide)]
theorem keep_rel (hR : RR σ μ) (hd : σ.1 3 = nI d) (hd12 : d < 12) (hW : VW σ μ d t hs ww) (ht : 2 ≤ t) {σ1 μ1 : dp_Z} (hL : VL σ1 μ1 d c len val st wc) (hc : c ≤ 7) (ha : a < 4)
    (f1 : ∀ k, k ≠ 16 → σ1.1 k = σ.1 k) (f2 : ∀ a, a ≠ 8 → a ≠ 9 → a ≠ 10 → a ≠ 11 → σ1.2 a = σ.2 a) (f3 : ∀ k, k ≠ 13 → μ1.1 k = μ.1 k) (f4 : ∀ a, a ≠ 9 → a ≠ 10 → a ≠ 11 → μ1.2 a = μ.2 a) :
    ∃ r σ' μ', jj_X0_keep_13 σ1 (nI a) = some (r, σ') ∧ jj_X6_tell_44 μ1 (nI a) = some (r, μ') ∧ RR σ' μ' := by
  obtain ⟨⟨t1, t2, t3, t4, t5⟩, w2, w3, w4, w5⟩ := hW
  obtain ⟨⟨l1, l2, l3⟩, l4⟩ := hL
  obtain ⟨σ', e1, a1, ⟨a2, a3, a4⟩, a5, a6, a7, a8, a9⟩ := keep_class (a := a) l2 hc
  obtain ⟨μ', e2, b1, ⟨b2, b3⟩, b4, b5, b6, b7⟩ := keep_model (a := a) l3 (show μ1.1 12 = nI t by rw [f3 12 (by decide)]; exact t4) hc t1
  refine ⟨_, _, _, e1, e2, hR.wl (fun k h1 h2 h3 => (a1 k h1 h2 h3).trans (f1 k h3)) (fun a h1 h2 h3 h4 h5 h6 => (a5 a h2 h3 h4 h5).trans (f2 a h2 h3 h4 h5)) (fun k h1 h2 => (b1 k h1 h2).trans (f3 k h2)) (fun a h1 h2 h3 h4 => (b4 a h2 h3 h4).trans (f4 a h2 h3 h4)) (fun d' hd' hd2 => ?_)⟩
  have : d' = d := nI_inj (by omega) (by omega) (hd'.symm.trans hd)
  subst this
  refine ⟨RW.nil a3 a2 b2, c + 1, fun k => if k = c then t else len k, fun k => if k = c then a else val k, fun k => if k = c then hs else st k, fun j => if 12 * c ≤ j then ww (j - 12 * c) else wc j, ⟨by omega, a4, b3⟩, fun k hk => ?_⟩
  dsimp only
  rw [a7, a8, a9, b5, b6, f1 15 (by decide), f1 14 (by decide), t3, t5]
  by_cases e : k = c
  · subst e
    simp only [if_true, up_eq]
    refine ⟨⟨ht, t1, trivial, trivial⟩, ⟨ha, trivial, trivial⟩, fun i hi => ?_, ?_, t2, trivial, fun b => ?_⟩
    · rw [if_pos (by omega), Nat.add_sub_cancel_left, b7, if_pos (by omega), Nat.add_sub_cancel_left, a6, f4 8 (by decide) (by decide) (by decide)]
      have h2 := w2 i hi
      refine ⟨h2.1, ?_, h2.2.2⟩
      show (if 12 * k ≤ 12 * k + i ∧ 12 * k + i < 12 * k + 12 then σ1.2 7 (0 + (12 * k + i - 12 * k)) else _) = _
      rw [if_pos (by omega), Nat.add_sub_cancel_left, Nat.zero_add, f2 7 (by decide) (by decide) (by decide) (by decide)]
      exact h2.2.1
    · rw [if_pos (by omega), Nat.sub_self]; exact w5 (by omega)
    · rw [w4 b]
      constructor
      · rintro ⟨i, y1, y2⟩; exact ⟨i, y1, by rw [if_pos (by omega), Nat.add_sub_cancel_left]; exact y2⟩
      · rintro ⟨i, y1, y2⟩; rw [if_pos (by omega), Nat.add_sub_cancel_left] at y2; exact ⟨i, y1, y2⟩
  · have hk2 : k < c := by omega
    obtain ⟨q1, q2, q3, q4, q5, q6, q7⟩ := l4 k hk2
    simp only [if_neg e, up_ne e]
    refine ⟨q1, q2, fun i hi => ?_, ?_, q5, q6, fun b => ?_⟩
    · have hlt : 12 * k + i < 12 * c := by omega
      rw [if_neg (by omega), b7, if_neg (by omega), a6]
      have h2 := q3 i hi
      refine ⟨h2.1, ?_, h2.2.2⟩
      show (if 12 * c ≤ 12 * k + i ∧ 12 * k + i < 12 * c + 12 then _ else σ1.2 8 (12 * k + i)) = _
      rw [if_neg (by omega)]
      exact h2.2.1
    · rw [if_neg (by omega)]; exact q4
    · rw [q7 b]
      constructor
      · rintro ⟨i, y1, y2⟩; exact ⟨i, y1, by rw [if_neg (by omega)]; exact y2⟩
      · rintro ⟨i, y1, y2⟩; rw [if_neg (by omega)] at y2; exact ⟨i, y1, y2⟩
theorem forget_class (s : dp_Z) : ∃ s', j_X0_forgetOldest s = some s' ∧ (∀ k, k ≠ 16 → s'.1 k = s.1 k) ∧ s'.1 16 = nI 7 ∧ (∀ a, a ≠ 8 → a ≠ 9 → a ≠ 10 → a ≠ 11 → s'.2 a = s.2 a) ∧ (∀ i, i < 84 → s'.2 8 i = s.2 8 (12 + i)) ∧ ∀ i, i < 7 → s'.2 9 i = s.2 9 (1 + i) ∧ s'.2 10 i = s.2 10 (1 + i) ∧ s'.2 11 i = s.2 11 (1 + i) := by
  unfold j_X0_forgetOldest
  rw [dp_bd_some, sf_eq, if_pos (show dp_cpk 12 0 (7 * 12) 96 96 = true by decide), dp_bd_some, sr_1, sf_eq, if_pos (show dp_cpk 1 0 7 8 8 = true by decide), dp_bd_some, sr_1, sr_1, sf_eq, if_pos (show dp_cpk 1 0 7 8 8 = true by decide), dp_bd_some, sr_1, sr_1, sr_1, sf_eq, if_pos (show dp_cpk 1 0 7 8 8 = true by decide), dp_bd_some, sf_2, show ((7 : Int32) * 12).toNatClampNeg = 84 by decide, show (7 : Int32).toNatClampNeg = 7 by decide, show (0 : Int32).toNatClampNeg = 0 by decide, show (1 : Int32).toNatClampNeg = 1 by decide, show (12 : Int32).toNatClampNeg = 12 by decide]
  refine ⟨_, rfl, fun k h1 => ?_, ?_, fun a h1 h2 h3 h4 => ?_, fun i hi => ?_, fun i hi => ⟨?_, ?_, ?_⟩⟩
  · rw [sr_1, sr_1, sr_1, sr_1, sf_ne h1]
  · rw [sr_1, sr_1, sr_1, sr_1, sf_eq]; rfl
  · rw [sr_ne h4, sr_ne h3, sr_ne h2, sr_ne h1, sf_2]
  · rw [sr_ne (by decide), sr_ne (by decide), sr_ne (by decide), sr_eq]
    show (if 0 ≤ i ∧ i < 0 + 84 then s.2 8 (12 + (i - 0)) else _) = _
    rw [if_pos (by omega)]; rfl
  · rw [sr_ne (by decide), sr_ne (by decide), sr_eq, sr_ne (by decide), sf_2]
    show (if 0 ≤ i ∧ i < 0 + 7 then s.2 9 (1 + (i - 0)) else _) = _
    rw [if_pos (by omega)]; rfl
  · rw [sr_ne (by decide), sr_eq, sr_ne (by decide), sr_ne (by decide), sf_2]
    show (if 0 ≤ i ∧ i < 0 + 7 then s.2 10 (1 + (i - 0)) else _) = _
    rw [if_pos (by omega)]; rfl
  · rw [sr_eq, sr_ne (by decide), sr_ne (by decide), sr_ne (by decide), sf_2]
    show (if 0 ≤ i ∧ i < 0 + 7 then s.2 11 (1 + (i - 0)) else _) = _
    rw [if_pos (by omega)]; rfl
theorem old2 (s : dp_Z) : ∃ s', dp_loop jb_X6_oldestGoes_2 dp_F (s, 1) = some s' ∧ s'.1 = s.1 ∧ (∀ a, a ≠ 9 → a ≠ 10 → s'.2 a = s.2 a) ∧ ∀ i, i < 7 → s'.2 9 i = s.2 9 (1 + i) ∧ s'.2 10 i = s.2 10 (1 + i) := by
  obtain ⟨r, e1, he⟩ := dp_run (b := jb_X6_oldestGoes_2) (fun i x => 1 ≤ i ∧ x.2 = nI i ∧ x.1.1 = s.1 ∧ (∀ a, a ≠ 9 → a ≠ 10 → x.1.2 a = s.2 a) ∧ (∀ j, j + 1 < i → x.1.2 9 j = s.2 9 (1 + j) ∧ x.1.2 10 j = s.2 10 (1 + j)) ∧ ∀ j, i ≤ j + 1 → x.1.2 9 j = s.2 9 j ∧ x.1.2 10 j = s.2 10 j) (fun r => r.1 = s.1 ∧ (∀ a, a ≠ 9 → a ≠ 10 → r.2 a = s.2 a) ∧ ∀ i, i < 7 → r.2 9 i = s.2 9 (1 + i) ∧ r.2 10 i = s.2 10 (1 + i)) 8 (by
    rintro i ⟨x, ix⟩ hi ⟨hi1, rfl, h1, h2, h3, h4⟩
    dsimp only at h1 h2 h3 h4
    unfold jb_X6_oldestGoes_2
    dsimp only
    by_cases ce : i = 8
    · subst ce
      exact Or.inr ⟨_, if_pos (show (8 : Int32) ≤ nI 8 by decide), h1, h2, fun j hj => h3 j (by omega)⟩
    rw [if_neg (show ¬ (8 : Int32) ≤ nI i from nI_ge (b := 8) (by omega) (by decide)), show nI i - 1 = nI (i - 1) from pk_sub (b := 1) hi1, if_pos (dp_inb_nI (by omega) (by decide)), if_pos (dp_inb_nI (by omega) (by decide)), dp_bd_some, if_pos (dp_inb_nI (by omega) (by decide)), if_pos (dp_inb_nI (by omega) (by decide)), dp_bd_some, nI_clamp (show i < 2 ^ 31 by omega), nI_clamp (show i - 1 < 2 ^ 31 by omega), nI_1, sr_ne (show (10 : Nat) ≠ 9 by decide)]
    refine Or.inl ⟨_, rfl, by omega, by omega, rfl, h1, fun a ha hb => by dsimp only; rw [sr_ne hb, sr_ne ha]; exact h2 a ha hb, fun j hj => ?_, fun j hj => ?_⟩
    · dsimp only
      rw [sr_ne (show (9 : Nat) ≠ 10 by decide), sr_eq, sr_eq]
      by_cases e : j = i - 1
      · subst e
        rw [up_eq, up_eq, show 1 + (i - 1) = i by omega]
        exact h4 i (by omega)
      · rw [up_ne e, up_ne e]; exact h3 j (by omega)
    · dsimp only
      rw [sr_ne (show (9 : Nat) ≠ 10 by decide), sr_eq, sr_eq, up_ne (show j ≠ i - 1 by omega), up_ne (show j ≠ i - 1 by omega)]
      exact h4 j (by omega)) dp_F 1 (s, 1) (by decide) (dp_F_lt (by decide) 1) ⟨Nat.le_refl _, rfl, rfl, fun _ _ _ => rfl, fun j hj => by omega, fun _ _ => ⟨rfl, rfl⟩⟩
  exact ⟨r, e1, he⟩
theorem old45 (s : dp_Z) : ∃ s', dp_loop jb_X6_oldestGoes_45 dp_F (s, 12) = some s' ∧ s'.1 = s.1 ∧ (∀ a, a ≠ 11 → s'.2 a = s.2 a) ∧ ∀ i, i < 84 → s'.2 11 i = s.2 11 (12 + i) := by
  obtain ⟨r, e1, he⟩ := dp_run (b := jb_X6_oldestGoes_45) (fun i x => 12 ≤ i ∧ x.2 = nI i ∧ x.1.1 = s.1 ∧ (∀ a, a ≠ 11 → x.1.2 a = s.2 a) ∧ (∀ j, j + 12 < i → x.1.2 11 j = s.2 11 (12 + j)) ∧ ∀ j, i ≤ j + 12 → x.1.2 11 j = s.2 11 j) (fun r => r.1 = s.1 ∧ (∀ a, a ≠ 11 → r.2 a = s.2 a) ∧ ∀ i, i < 84 → r.2 11 i = s.2 11 (12 + i)) 96 (by
    rintro i ⟨x, ix⟩ hi ⟨hi1, rfl, h1, h2, h3, h4⟩
    dsimp only at h1 h2 h3 h4
    unfold jb_X6_oldestGoes_45
    dsimp only
    by_cases ce : i = 96
    · subst ce
      exact Or.inr ⟨_, if_pos (show Int32.ofNat 96 ≤ nI 96 by decide), h1, h2, fun j hj => h3 j (by omega)⟩
    rw [if_neg (show ¬ Int32.ofNat 96 ≤ nI i from nI_ge (b := 96) (by omega) (by decide)), show nI i - 12 = nI (i - 12) from pk_sub (b := 12) hi1, if_pos (dp_inb_nI (by omega) (by decide)), if_pos (dp_inb_nI (by omega) (by decide)), dp_bd_some, nI_clamp (show i < 2 ^ 31 by omega), nI_clamp (show i - 12 < 2 ^ 31 by omega), nI_1]
    refine Or.inl ⟨_, rfl, by omega, by omega, rfl, h1, fun a ha => (sr_ne ha).trans (h2 a ha), fun j hj => ?_, fun j hj => ?_⟩
    · dsimp only
      rw [sr_eq]
      by_cases e : j = i - 12
      · subst e
        rw [up_eq, show 12 + (i - 12) = i by omega]
        exact h4 i (by omega)
      · rw [up_ne e]; exact h3 j (by omega)
    · dsimp only
      rw [sr_eq, up_ne (show j ≠ i - 12 by omega)]
      exact h4 j (by omega)) dp_F 12 (s, 12) (by decide) (dp_F_lt (by decide) 12) ⟨Nat.le_refl _, rfl, rfl, fun _ _ => rfl, fun j hj => by omega, fun _ _ => rfl⟩
  exact ⟨r, e1, he⟩
theorem sim_tell (hR : RR σ μ) (b : Int32) : ∃ r σ' μ', j_X5_tell σ b = some (r, σ') ∧ j_X6_tell μ b = some (r, μ') ∧ RR σ' μ' := by
  have hR0 := hR
  obtain ⟨n, w, h, d, v, k, L, hV, -, -, -, ⟨t, hs, ww, hW⟩, ⟨c, len, val, st, wc, hL⟩⟩ := hR
  have hd12 : d < 12 := by have := hV.1.2.1; have := hV.1.2.2.2.2.2.1; omega
  have t1 := hW.1.1
  unfold j_X5_tell j_X6_tell
  rcases in_val b with ⟨a, ha, rfl, e1, e2⟩ | ⟨-, e1, e2⟩
  rotate_left
  · rw [e1, e2, dp_bd_some, dp_bd_some, i00, i00]
    exact ⟨-2, σ, μ, rfl, rfl, hR0⟩
  rw [e1, e2, dp_bd_some, dp_bd_some, i10, i10, hW.1.2.2.1, hW.1.2.2.2.1]
  by_cases c2 : t < 2
  · rw [if_pos (show nI t < (2 : Int32) from nI_lt (b := 2) c2 (by decide)), if_pos (show nI t < (2 : Int32) from nI_lt (b := 2) c2 (by decide))]
    exact ⟨-3, σ, μ, rfl, rfl, hR0⟩
  obtain ⟨r, g1, g2⟩ := told hW hL ha
  rw [if_neg (show ¬ nI t < (2 : Int32) from nI_nlt (b := 2) (by omega) (by omega)), if_neg (show ¬ nI t < (2 : Int32) from nI_nlt (b := 2) (by omega) (by omega)), g1, g2, dp_bd_some, dp_bd_some]
  by_cases cr : r = 0
  rotate_left
  · rw [if_neg cr, if_neg cr]
    exact ⟨-3, σ, μ, rfl, rfl, hR0⟩
  rw [if_pos cr, if_pos cr]
  obtain ⟨⟨l1, l2, l3⟩, l4⟩ := id hL
  unfold j_X0_keep
  rw [l2, l3]
  by_cases c8 : c = 8
  · subst c8
    rw [if_neg (show ¬ nI 8 < (8 : Int32) by decide), if_pos (show nI 8 = (8 : Int32) from rfl)]
    obtain ⟨σ1, q1, q2, q3, q4, q5, q6⟩ := forget_class σ
    obtain ⟨μ1, p1, p2, p3, p4⟩ := old2 μ
    obtain ⟨μ2, p5, p6, p7, p8⟩ := old45 μ1
    unfold j_X6_oldestGoes
    have h13 : μ2.1 13 = nI 8 := by rw [p6, p2]; exact l3
    rw [q1, p1, dp_bd_some, dp_bd_some, p5, dp_bd_some, dp_bd_some, dp_bd_some, h13, show nI 8 - 1 = nI 7 by decide]
    have hL1 : VL σ1 (dp_sf μ2 13 (nI 7)) d 7 (fun k => len (k + 1)) (fun k => val (k + 1)) (fun k => st (k + 1)) (fun j => wc (12 + j)) := by
      refine ⟨⟨by decide, q3, sf_eq⟩, fun k hk => ?_⟩
      obtain ⟨⟨x1, x2, x3, x4⟩, ⟨y1, y2, y3⟩, z1, z2, z3, z4, z5⟩ := l4 (k + 1) (by omega)
      dsimp only
      rw [(q6 k hk).1, (q6 k hk).2.1, (q6 k hk).2.2, sf_2, p7 9 (by decide), p7 10 (by decide), (p4 k hk).1, (p4 k hk).2, Nat.add_comm 1 k]
      refine ⟨⟨x1, x2, x3, x4⟩, ⟨y1, y2, y3⟩, fun i hi => ?_, ?_, z3, z4, fun b => ?_⟩
      · have hh := z1 i hi
        rw [q5 (12 * k + i) (by omega), p8 (12 * k + i) (by omega), p3 11 (by decide) (by decide), show 12 + (12 * k + i) = 12 * (k + 1) + i by omega]
        exact hh
      · rw [show 12 + 12 * k = 12 * (k + 1) by omega]; exact z2
      · rw [z5 b]
        constructor
        · rintro ⟨i, u1, u2⟩; exact ⟨i, u1, by rw [show 12 + (12 * k + i) = 12 * (k + 1) + i by omega]; exact u2⟩
        · rintro ⟨i, u1, u2⟩; rw [show 12 + (12 * k + i) = 12 * (k + 1) + i by omega] at u2; exact ⟨i, u1, u2⟩
    obtain ⟨r', σ', μ', z1, z2, z3⟩ := keep_rel (a := a) hR0 hV.2.1.2.2.2.1 hd12 hW (by omega) hL1 (by decide) ha q2 q4 (fun k hk => by rw [sf_ne hk, p6, p2]) (fun a h1 h2 h3 => by rw [sf_2, p7 a h3, p3 a h1 h2])
    rw [z1, z2, dp_bd_some]
    exact ⟨r', σ', μ', rfl, rfl, z3⟩
  · rw [if_pos (show nI c < (8 : Int32) from nI_lt (b := 8) (by omega) (by decide)), if_neg (show ¬ nI c = (8 : Int32) from fun y => c8 (nI_inj (by omega) (show 8 < 2 ^ 31 by decide) y))]
    obtain ⟨r', σ', μ', z1, z2, z3⟩ := keep_rel (a := a) hR0 hV.2.1.2.2.2.1 hd12 hW (by omega) hL (by omega) ha (fun _ _ => rfl) (fun _ _ _ _ _ => rfl) (fun _ _ => rfl) (fun _ _ _ _ => rfl)
    rw [z1, z2, dp_bd_some]
    exact ⟨r', σ', μ', rfl, rfl, z3⟩
end TE
