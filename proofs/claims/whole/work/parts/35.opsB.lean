/-! ===== 35: edge, net, grid, neighbours ===== -/
section OB
variable {σ σ' μ μ' : dp_Z} {n w h d v k : Nat} {L : Nat → Nat}
theorem VN.links (hV : VN σ μ n w h d v k L) {L' : Nat → Nat} (h1 : σ'.1 = σ.1) (h2 : μ'.1 = μ.1) (h3 : σ'.2 1 = σ.2 1) (h4 : μ'.2 1 = μ.2 1) (h5 : ∀ i, i < 12 → L' i < 4096 ∧ σ'.2 0 i = nI (L' i) ∧ μ'.2 0 i = nI (L' i)) : VN σ' μ' n w h d v k L' := by
  obtain ⟨a, b, c, -, e⟩ := hV
  refine ⟨a, by rw [h1]; exact b, by rw [h2]; exact c, h5, by rw [h3, h4]; exact e⟩
theorem sim_neighbours (hR : RR σ μ) (a : Int32) : ∃ r, j_X5_neighbours σ a = some r ∧ j_X6_neighbours μ a = some r := by
  obtain ⟨n, w, h, d, v, k, L, hV, -⟩ := hR
  unfold j_X5_neighbours j_X6_neighbours
  rcases in_node hV a with ⟨i, hi, rfl, e1, e2⟩ | ⟨e1, e2⟩
  · have hi2 : i < 12 := by have := hV.1.2.1; omega
    simp only [e1, e2, dp_bd_some, i10, if_pos (dp_inb_nI hi2 (by decide)), nI_clamp (show i < 2 ^ 31 by omega), (hV.2.2.2.1 i hi2).2.1, (hV.2.2.2.1 i hi2).2.2]
    exact ⟨_, rfl, rfl⟩
  · simp only [e1, e2, dp_bd_some, i00]
    exact ⟨_, rfl, rfl⟩
theorem ed_or {a b : Nat} : (a ^^^ (a &&& 2 ^ b)) ||| 2 ^ b = a ||| 2 ^ b := by
  apply Nat.eq_of_testBit_eq
  intro i
  simp only [Nat.testBit_or, Nat.testBit_xor, Nat.testBit_and]
  cases a.testBit i <;> cases (2 ^ b).testBit i <;> rfl
theorem sim_edge (hR : RR σ μ) (a b c : Int32) : ∃ r σ' μ', j_X5_edge σ a b c = some (r, σ') ∧ j_X6_edge μ a b c = some (r, μ') ∧ RR σ' μ' := by
  have hR0 := hR
  obtain ⟨n, w, h, d, v, k, L, hV, hS, hT, hC, hW, hL⟩ := hR
  have n2 : n ≤ 12 := hV.1.2.1
  have hLl := hV.2.2.2.1
  unfold j_X5_edge j_X6_edge
  rcases in_node hV a with ⟨i, hi, rfl, e1, e2⟩ | ⟨e1, e2⟩
  rotate_left
  · simp only [e1, e2, dp_bd_some, i00]
    exact ⟨-1, σ, μ, rfl, rfl, hR0⟩
  rcases in_node hV b with ⟨j, hj, rfl, f1, f2⟩ | ⟨f1, f2⟩
  rotate_left
  · simp only [e1, e2, f1, f2, dp_bd_some, i00, i10]
    exact ⟨-1, σ, μ, rfl, rfl, hR0⟩
  simp only [e1, e2, f1, f2, dp_bd_some, i10]
  rcases wi c 0 1 (by decide) (by decide) with ⟨q, h1, h2, rfl, h4⟩ | ⟨h1, h2⟩
  rotate_left
  · rw [show j_X6_within c 0 1 = some 0 from h2]
    simp only [dp_bd_some, i00]
    refine ⟨-2, σ, μ, ?_, rfl, hR0⟩
    rcases h1 with h1 | h1
    · rw [if_pos (show c < (0 : Int32) from h1)]
    · have := up_lt (lo := 0) (by decide) (by decide) h1
      rw [if_neg (show ¬ c < (0 : Int32) from this.1), if_neg (show ¬ c ≤ (1 : Int32) from this.2)]
  rw [show j_X6_within (nI q) 0 1 = some 1 from h4]
  simp only [dp_bd_some, i10, if_neg (show ¬ nI q < (0 : Int32) from nI_pos (by omega)), if_pos (show nI q ≤ (1 : Int32) from nI_le (b := 1) h2 (by decide))]
  by_cases cij : i = j
  · subst cij
    exact ⟨-3, σ, μ, if_pos rfl, if_pos rfl, hR0⟩
  have hne : ¬ nI i = nI j := fun z => cij (nI_inj (by omega) (by omega) z)
  have ci : (nI i).toNatClampNeg = i := nI_clamp (by omega)
  have cj : (nI j).toNatClampNeg = j := nI_clamp (by omega)
  have ii : dp_inb (nI i) 12 = true := dp_inb_nI (by omega) (by decide)
  have ij : dp_inb (nI j) 12 = true := dp_inb_nI (by omega) (by decide)
  have hi2 : i < 12 := by omega
  have hj2 : j < 12 := by omega
  have li := hLl i hi2
  have lj := hLl j hj2
  have hLx : ∀ i, i < 12 → L i < 4096 ∧ σ.2 0 i = nI (L i) := fun i hi => ⟨(hLl i hi).1, (hLl i hi).2.1⟩
  have oi := mb_one i (by omega)
  have oj := mb_one j (by omega)
  have uj : ∀ (f : Nat → Int32) (x : Int32), upd f i x j = f j := fun f x => up_ne (fun z => cij z.symm)
  simp only [if_neg hne, if_pos ii, if_pos ij, ci, cj, li.2.1, li.2.2, sl_linked hLx hi2 (show j < 31 by omega), dp_bd_some, mb_tb (s31 li.1) (show j < 31 by omega), sr_eq, uj, lj.2.2, mb_not _ _ (s31 li.1), mb_not _ _ (s31 lj.1), oi, oj]
  have finish : ∀ (la lb : Nat) (r : Int32), la < 4096 → lb < 4096 → ∃ σ' μ', (dp_bd (j_X3_restart (dp_sf (dp_sf (dp_sf (dp_sr (dp_sr σ 0 (upd (σ.2 0) i (nI la))) 0 (upd (upd (σ.2 0) i (nI la)) j (nI lb))) 15 0) 14 0) 16 0)) fun x6 => some (r, x6)) = some (r, σ') ∧ (dp_bd (j_X6_forgets (dp_sr (dp_sr μ 0 (upd (μ.2 0) i (nI la))) 0 (upd (upd (μ.2 0) i (nI la)) j (nI lb)))) fun x7 => some (r, x7)) = some (r, μ') ∧ RR σ' μ' := by
    intro la lb r ha hb
    have hV1 : VN (dp_sr (dp_sr σ 0 (upd (σ.2 0) i (nI la))) 0 (upd (upd (σ.2 0) i (nI la)) j (nI lb))) (dp_sr (dp_sr μ 0 (upd (μ.2 0) i (nI la))) 0 (upd (upd (μ.2 0) i (nI la)) j (nI lb))) n w h d v k (fun q => if q = j then lb else if q = i then la else L q) := by
      refine hV.links rfl rfl rfl rfl (fun q hq => ?_)
      rw [sr_eq, sr_eq]
      by_cases z1 : q = j
      · subst z1
        rw [up_eq, up_eq, if_pos rfl]
        exact ⟨hb, rfl, rfl⟩
      · rw [up_ne z1, up_ne z1, if_neg z1]
        by_cases z2 : q = i
        · subst z2
          rw [up_eq, up_eq, if_pos rfl]
          exact ⟨ha, rfl, rfl⟩
        · rw [up_ne z2, up_ne z2, if_neg z2]
          exact hLl q hq
    obtain ⟨σ', μ', g1, g2, g3⟩ := sim_forget hV1 (hC.cg rfl rfl rfl rfl)
    exact ⟨σ', μ', by rw [g1]; rfl, by rw [g2]; rfl, g3⟩
  have was : ∀ (A : Int32 → Option (Int32 × dp_Z)), (if (if (L i).testBit j = true then (1 : Int32) else 0) = 0 then A 0 else A 1) = A (if (L i).testBit j = true then 1 else 0) := by
    intro A
    by_cases z : (L i).testBit j = true
    · rw [if_pos z, i10]
    · rw [if_neg z, i00]
  rw [was (fun t => jj_X5_edge_61 σ (nI i) (nI j) (nI q) t)]
  unfold jj_X5_edge_61 jj_X5_edge_79 j_X2_link jj_X2_link_34
  rcases (show q = 0 ∨ q = 1 by omega) with rfl | rfl
  · have z1 : ∀ x : Int32, nI 0 <<< (x &&& 31) = nI 0 := by
      intro x
      apply Int32.toBitVec_inj.1
      show (0#32) <<< _ = 0#32
      simp
    simp only [if_neg (show ¬ nI 0 = (1 : Int32) by decide), i00, if_pos ii, if_pos ij, ci, cj, li.2.1, sr_eq, uj, lj.2.1, oi, oj, mb_not _ _ (s31 li.1), mb_not _ _ (s31 lj.1), dp_bd_some, x_forget, z1, fa_or, Nat.or_zero]
    obtain ⟨σ', μ', g1, g2, g3⟩ := finish (L i ^^^ (L i &&& 2 ^ j)) (L j ^^^ (L j &&& 2 ^ i)) (if (L i).testBit j = true then 1 else 0) (xor12 li.1 (and12 li.1)) (xor12 lj.1 (and12 lj.1))
    exact ⟨_, σ', μ', g1, g2, g3⟩
  · have z1 : ∀ t, t < 31 → nI 1 <<< (nI t &&& 31) = nI (2 ^ t) := mb_one
    simp only [if_pos (show nI 1 = (1 : Int32) from rfl), i10, if_pos ii, if_pos ij, ci, cj, li.2.1, sr_eq, uj, lj.2.1, oi, oj, mb_not _ _ (s31 li.1), mb_not _ _ (s31 lj.1), dp_bd_some, x_forget, z1 i (by omega), z1 j (by omega), fa_or, ed_or]
    obtain ⟨σ', μ', g1, g2, g3⟩ := finish (L i ||| 2 ^ j) (L j ||| 2 ^ i) (if (L i).testBit j = true then 1 else 0) (or12 li.1 (pw12 hj2)) (or12 lj.1 (pw12 hi2))
    exact ⟨_, σ', μ', g1, g2, g3⟩
theorem lay_b {w h x y : Nat} (hx : x < w) (hy : y < h) : w * y + x < w * h ∧ w * y + w ≤ w * h := by
  have := Nat.mul_le_mul_left w (show y + 1 ≤ h from hy)
  rw [Nat.mul_add, Nat.mul_one] at this
  omega
theorem lay_in {t : dp_Z} {w h r y : Nat} (h1 : t.1 1 = nI w) (h2 : t.1 2 = nI h) (hw : w < 13) (hh : h < 13) (hn : w * h ≤ 12) (hr : r < 4) (hy : y < h) : ∃ t', dp_loop (jb_X2_lay_51 (nI w) (nI h) (nI r) (nI y)) dp_F (t, 0) = some t' ∧ t'.1 = t.1 ∧ (∀ a, a ≠ 0 → t'.2 a = t.2 a) ∧ ∀ i, i < 12 → t'.2 0 i = if w * y ≤ i ∧ i < w * y + w then nI (gmo w r i (w * h)) else t.2 0 i := by
  obtain ⟨t', e1, he⟩ := dp_run (b := jb_X2_lay_51 (nI w) (nI h) (nI r) (nI y)) (fun x z => z.2 = nI x ∧ z.1.1 = t.1 ∧ (∀ a, a ≠ 0 → z.1.2 a = t.2 a) ∧ ∀ i, i < 12 → z.1.2 0 i = if w * y ≤ i ∧ i < w * y + x then nI (gmo w r i (w * h)) else t.2 0 i) (fun t' => t'.1 = t.1 ∧ (∀ a, a ≠ 0 → t'.2 a = t.2 a) ∧ ∀ i, i < 12 → t'.2 0 i = if w * y ≤ i ∧ i < w * y + w then nI (gmo w r i (w * h)) else t.2 0 i) w (by
    rintro x ⟨z, c⟩ hx ⟨rfl, g1, g2, g3⟩
    unfold jb_X2_lay_51
    dsimp only at g1 g2 g3 ⊢
    by_cases c : x = w
    · subst c
      exact Or.inr ⟨z, if_pos (nI_le (Nat.le_refl _) (by omega)), g1, g2, g3⟩
    have hx2 : x < w := by omega
    have hb := lay_b hx2 hy
    rw [if_neg (nI_ge hx2 (by omega)), gr_around (by rw [g1]; exact h1) (by rw [g1]; exact h2) hw hh hn hr hx2 hy, dp_bd_some, pk_mul, nI_add, if_pos (dp_inb_nI (by omega) (by decide)), dp_bd_some, nI_clamp (by omega), nI_1]
    refine Or.inl ⟨_, rfl, hx2, rfl, g1, fun a ha => (sr_ne ha).trans (g2 a ha), fun i hi => ?_⟩
    dsimp only
    rw [sr_eq]
    by_cases z1 : i = w * y + x
    · subst z1
      rw [up_eq, if_pos (by omega)]
    · rw [up_ne z1, g3 i hi]
      by_cases z2 : w * y ≤ i ∧ i < w * y + x
      · rw [if_pos z2, if_pos (by omega)]
      · rw [if_neg z2, if_neg (by omega)]) dp_F 0 (t, 0) (Nat.zero_le _) (dp_F_lt (by omega) 0) ⟨rfl, rfl, fun _ _ => rfl, fun i hi => by rw [if_neg (by omega)]⟩
  exact ⟨t', e1, he⟩
theorem x_lay (s : dp_Z) {w h r : Nat} (hw : w < 13) (hh : h < 13) (hn : w * h ≤ 12) (hr : r < 4) : ∃ s', j_X2_lay s (nI w) (nI h) (nI r) = some s' ∧ ((∀ k, k ≠ 0 → k ≠ 1 → k ≠ 2 → k ≠ 3 → s'.1 k = s.1 k) ∧ s'.1 0 = nI (w * h) ∧ s'.1 1 = nI w ∧ s'.1 2 = nI h ∧ s'.1 3 = nI 0) ∧ (∀ a, a ≠ 0 → a ≠ 1 → s'.2 a = s.2 a) ∧ (∀ i, i < 12 → s'.2 1 i = -9) ∧ ∀ i, i < 12 → s'.2 0 i = nI (if i < w * h then gmo w r i (w * h) else 0) := by
  unfold j_X2_lay
  rw [dp_bd_some, dp_bd_some, dp_bd_some, dp_bd_some, pk_mul]
  obtain ⟨t1, a1, a2, a3, a4⟩ := fill_q3 (dp_sf (dp_sf (dp_sf (dp_sf s 1 (nI w)) 2 (nI h)) 0 (nI (w * h))) 3 0) (-9)
  obtain ⟨t2, b1, b2, b3, b4⟩ := fill_q2 t1 0
  rw [a1, dp_bd_some, b1, dp_bd_some]
  have q1 : t2.1 1 = nI w := by rw [b2, a2, sf_ne (by decide), sf_ne (by decide), sf_ne (by decide), sf_eq]
  have q2 : t2.1 2 = nI h := by rw [b2, a2, sf_ne (by decide), sf_ne (by decide), sf_eq]
  obtain ⟨s', e1, g1, g2, g3⟩ := dp_run (b := jb_X2_lay_42 (nI w) (nI h) (nI r)) (fun y z => z.2 = nI y ∧ z.1.1 = t2.1 ∧ (∀ a, a ≠ 0 → z.1.2 a = t2.2 a) ∧ ∀ i, i < 12 → z.1.2 0 i = nI (if i < w * y then gmo w r i (w * h) else 0)) (fun s' => s'.1 = t2.1 ∧ (∀ a, a ≠ 0 → s'.2 a = t2.2 a) ∧ ∀ i, i < 12 → s'.2 0 i = nI (if i < w * h then gmo w r i (w * h) else 0)) h (by
    rintro y ⟨z, c⟩ hy ⟨rfl, g1, g2, g3⟩
    unfold jb_X2_lay_42
    dsimp only at g1 g2 g3 ⊢
    by_cases c : y = h
    · subst c
      exact Or.inr ⟨z, if_pos (nI_le (Nat.le_refl _) (by omega)), g1, g2, g3⟩
    have hy2 : y < h := by omega
    obtain ⟨z', f1, f2, f3, f4⟩ := lay_in (t := z) (w := w) (h := h) (r := r) (y := y) (by rw [g1]; exact q1) (by rw [g1]; exact q2) hw hh hn hr hy2
    rw [if_neg (nI_ge hy2 (by omega)), f1, dp_bd_some, nI_1]
    refine Or.inl ⟨_, rfl, hy2, rfl, f2.trans g1, fun a ha => (f3 a ha).trans (g2 a ha), fun i hi => ?_⟩
    dsimp only
    have e : w * (y + 1) = w * y + w := by rw [Nat.mul_add, Nat.mul_one]
    rw [f4 i hi, g3 i hi, e]
    by_cases z1 : i < w * y
    · rw [if_neg (by omega), if_pos z1, if_pos (by omega)]
    · by_cases z2 : i < w * y + w
      · rw [if_pos (by omega), if_pos z2]
      · rw [if_neg (by omega), if_neg z1, if_neg z2]) dp_F 0 (t2, 0) (Nat.zero_le _) (dp_F_lt (by omega) 0) ⟨rfl, rfl, fun _ _ => rfl, fun i hi => by rw [if_neg (by omega), b4 i hi]; rfl⟩
  rw [e1, dp_bd_some]
  refine ⟨s', rfl, ⟨fun k h0 h1 h2 h3 => ?_, ?_, ?_, ?_, ?_⟩, fun a h0 h1 => ?_, fun i hi => ?_, g3⟩
  · rw [g1, b2, a2, sf_ne h3, sf_ne h0, sf_ne h2, sf_ne h1]
  · rw [g1, b2, a2, sf_ne (by decide), sf_eq]
  · rw [g1]; exact q1
  · rw [g1]; exact q2
  · rw [g1, b2, a2, sf_eq]; rfl
  · rw [g2 a h0, b3 a h0, a3 a h1, sf_2, sf_2, sf_2, sf_2]
  · rw [g2 1 (by decide), b3 1 (by decide)]; exact a4 i hi
theorem m_lays28 (s : dp_Z) : ∃ t, dp_loop jb_X6_lays_28 dp_F (s, 0) = some t ∧ t.1 = s.1 ∧ (∀ a, a ≠ 0 → a ≠ 1 → t.2 a = s.2 a) ∧ ∀ i, i < 12 → t.2 0 i = 0 ∧ t.2 1 i = -9 := by
  obtain ⟨r, e1, he⟩ := dp_run (b := jb_X6_lays_28) (fun i x => x.2 = nI i ∧ x.1.1 = s.1 ∧ (∀ a, a ≠ 0 → a ≠ 1 → x.1.2 a = s.2 a) ∧ ∀ j, j < i → x.1.2 0 j = 0 ∧ x.1.2 1 j = -9) (fun r => r.1 = s.1 ∧ (∀ a, a ≠ 0 → a ≠ 1 → r.2 a = s.2 a) ∧ ∀ j, j < 12 → r.2 0 j = 0 ∧ r.2 1 j = -9) 12 (by
    rintro i ⟨x, c⟩ hi ⟨rfl, h1, h2, h3⟩
    unfold jb_X6_lays_28
    dsimp only at h1 h2 h3 ⊢
    by_cases z : i = 12
    · subst z
      exact Or.inr ⟨x, if_pos (nI_le (b := 12) (Nat.le_refl _) (by decide)), h1, h2, h3⟩
    rw [if_neg (show ¬ (12 : Int32) ≤ nI i from nI_ge (b := 12) (by omega) (by decide)), if_pos (dp_inb_nI (by omega) (by decide)), dp_bd_some, if_pos (dp_inb_nI (by omega) (by decide)), dp_bd_some, nI_clamp (by omega), nI_1]
    refine Or.inl ⟨_, rfl, by omega, rfl, h1, fun a ha hb => ?_, fun j hj => ?_⟩
    · dsimp only
      rw [sr_ne hb, sr_ne ha]; exact h2 a ha hb
    · dsimp only
      rw [sr_ne (a := 1) (b := 0) (by decide), sr_eq, sr_eq, sr_ne (by decide)]
      by_cases y : j = i
      · subst y
        rw [up_eq, up_eq]
        exact ⟨rfl, rfl⟩
      · rw [up_ne y, up_ne y]; exact h3 j (by omega)) dp_F 0 (s, 0) (Nat.zero_le _) (dp_F_lt (by decide) 0) ⟨rfl, rfl, fun _ _ _ => rfl, fun j hj => absurd hj (Nat.not_lt_zero j)⟩
  exact ⟨r, e1, he⟩
end OB
