/-! ===== 36: net and grid ===== -/
section OC
variable {σ σ' μ μ' : dp_Z} {n w h d v k : Nat} {L : Nat → Nat}
theorem gc_zero (w i b : Nat) : gc w 0 i b = false := by
  unfold gc
  refine decide_eq_false ?_
  rintro ⟨h1, h2, h3, h4, h5⟩
  have e1 : i % w = b % w := by omega
  have e2 : i / w = b / w := by omega
  exact h1 (by rw [← Nat.div_add_mod i w, ← Nat.div_add_mod b w, e1, e2])
theorem gmo_zero (w i : Nat) : ∀ b, gmo w 0 i b = 0
  | 0 => rfl
  | b + 1 => by
    unfold gmo
    rw [gmo_zero w i b, gc_zero, if_neg (by decide)]
    rfl
theorem RC.nil (h1 : σ.1 13 = 0) (h2 : μ.1 11 = 0) : RC σ μ := ⟨0, by decide, h1, h2, fun i hi => absurd hi (Nat.not_lt_zero i)⟩
theorem gr_in {t : dp_Z} {n w r a : Nat} (h0 : t.1 0 = nI n) (hn : n ≤ 12) (hw0 : 0 < w) (hw : w < 13) (hr : r < 4) (ha : a < n) (hz : t.2 0 a = nI 0) : ∃ t', dp_loop (jb_X6_grid_68 (nI w) (nI r) (nI a)) dp_F (t, 0) = some t' ∧ t'.1 = t.1 ∧ (∀ a, a ≠ 0 → t'.2 a = t.2 a) ∧ ∀ i, i < 12 → t'.2 0 i = if i = a then nI (gmo w r a n) else t.2 0 i := by
  obtain ⟨t', e1, he⟩ := dp_run (b := jb_X6_grid_68 (nI w) (nI r) (nI a)) (fun b z => z.2 = nI b ∧ z.1.1 = t.1 ∧ (∀ a, a ≠ 0 → z.1.2 a = t.2 a) ∧ ∀ i, i < 12 → z.1.2 0 i = if i = a then nI (gmo w r a b) else t.2 0 i) (fun t' => t'.1 = t.1 ∧ (∀ a, a ≠ 0 → t'.2 a = t.2 a) ∧ ∀ i, i < 12 → t'.2 0 i = if i = a then nI (gmo w r a n) else t.2 0 i) n (by
    rintro b ⟨z, c⟩ hb ⟨rfl, g1, g2, g3⟩
    unfold jb_X6_grid_68
    dsimp only at g1 g2 g3 ⊢
    rw [g1, h0]
    by_cases c : b = n
    · subst c
      exact Or.inr ⟨z, if_pos (nI_le (Nat.le_refl _) (by omega)), g1, g2, g3⟩
    have hb2 : b < n := by omega
    have hva : z.2 0 a = nI (gmo w r a b) := by rw [g3 a (by omega), if_pos rfl]
    have hw1 : ¬ nI w = 0 := nz (by omega) (by omega)
    have hia : dp_inb (nI a) 12 = true := dp_inb_nI (by omega) (by decide)
    have hca : (nI a).toNatClampNeg = a := nI_clamp (by omega)
    have hgo : ∀ (t0 : Int32) (m : Nat), t0 = nI m → jj_X6_grid_144 z (nI w) (nI r) (nI a) (nI b) t0 (nI (gmo w r a b)) (nI a) = some (.inl (dp_sr z 0 (upd (z.2 0) a (nI (gmo w r a b ||| m))), nI (b + 1))) := by
      rintro t0 m rfl
      unfold jj_X6_grid_144
      rw [if_pos hia, hca, fa_or, dp_bd_some, nI_1]
    have hno : jj_X6_grid_143 z (nI w) (nI r) (nI a) (nI b) (nI (gmo w r a b)) (nI a) = some (.inl (dp_sr z 0 (upd (z.2 0) a (nI (gmo w r a b ||| 0))), nI (b + 1))) := hgo 0 0 rfl
    have hyes := hgo ((1 : Int32) <<< (nI b &&& 31)) (2 ^ b) (mb_one b (by omega))
    have hw2 := gr_within hw0 hw (show a < 12 by omega) (show b < 12 by omega) hr
    rw [if_neg (nI_ge hb2 (by omega))]
    simp only [if_neg hw1, if_pos hia, hca, hva, hno, hyes, hw2.1, hw2.2, dp_bd_some]
    have fin : ∀ m, m = (if gc w r a b = true then 2 ^ b else 0) → ((∃ x' : dp_Z × Int32, (some (.inl (dp_sr z 0 (upd (z.2 0) a (nI (gmo w r a b ||| m))), nI (b + 1))) : Option ((dp_Z × Int32) ⊕ dp_Z)) = some (.inl x') ∧ b < n ∧ x'.2 = nI (b + 1) ∧ x'.1.1 = t.1 ∧ (∀ a, a ≠ 0 → x'.1.2 a = t.2 a) ∧ ∀ i, i < 12 → x'.1.2 0 i = if i = a then nI (gmo w r a (b + 1)) else t.2 0 i)) := by
      rintro m rfl
      refine ⟨_, rfl, hb2, rfl, g1, fun a ha => (sr_ne ha).trans (g2 a ha), fun i hi => ?_⟩
      dsimp only
      rw [sr_eq]
      by_cases z1 : i = a
      · subst z1
        rw [up_eq, if_pos rfl]
        rfl
      · rw [up_ne z1, if_neg z1, g3 i hi, if_neg z1]
    by_cases hab : a = b
    · rw [if_pos (by rw [hab])]
      refine Or.inl (fin 0 ?_)
      rw [if_neg]
      unfold gc
      simp [hab]
    · rw [if_neg (fun q => hab (nI_inj (by omega) (by omega) q))]
      by_cases c1 : a % w ≤ b % w + r ∧ b % w ≤ a % w + r
      · rw [if_pos c1, i10]
        by_cases c2 : a / w ≤ b / w + r ∧ b / w ≤ a / w + r
        · rw [if_pos c2, i10]
          refine Or.inl (fin (2 ^ b) ?_)
          rw [if_pos]
          unfold gc
          exact decide_eq_true ⟨hab, c1.1, c1.2, c2.1, c2.2⟩
        · rw [if_neg c2, i00]
          refine Or.inl (fin 0 ?_)
          rw [if_neg]
          unfold gc
          intro q
          have q := of_decide_eq_true q
          exact c2 ⟨q.2.2.2.1, q.2.2.2.2⟩
      · rw [if_neg c1, i00]
        refine Or.inl (fin 0 ?_)
        rw [if_neg]
        unfold gc
        intro q
        have q := of_decide_eq_true q
        exact c1 ⟨q.2.1, q.2.2.1⟩) dp_F 0 (t, 0) (Nat.zero_le _) (dp_F_lt (by omega) 0) ⟨rfl, rfl, fun _ _ => rfl, fun i hi => by
      by_cases z1 : i = a
      · subst z1
        rw [if_pos rfl]
        exact hz
      · rw [if_neg z1]⟩
  exact ⟨t', e1, he⟩
theorem gr_all {t : dp_Z} {n w r : Nat} (h0 : t.1 0 = nI n) (hn : n ≤ 12) (hw0 : 0 < w) (hw : w < 13) (hr : r < 4) (hz : ∀ i, i < 12 → t.2 0 i = nI 0) : ∃ t', dp_loop (jb_X6_grid_56 (nI w) (nI r)) dp_F (t, 0) = some t' ∧ t'.1 = t.1 ∧ (∀ a, a ≠ 0 → t'.2 a = t.2 a) ∧ ∀ i, i < 12 → t'.2 0 i = nI (if i < n then gmo w r i n else 0) := by
  obtain ⟨t', e1, he⟩ := dp_run (b := jb_X6_grid_56 (nI w) (nI r)) (fun a z => z.2 = nI a ∧ z.1.1 = t.1 ∧ (∀ a, a ≠ 0 → z.1.2 a = t.2 a) ∧ ∀ i, i < 12 → z.1.2 0 i = nI (if i < a then gmo w r i n else 0)) (fun t' => t'.1 = t.1 ∧ (∀ a, a ≠ 0 → t'.2 a = t.2 a) ∧ ∀ i, i < 12 → t'.2 0 i = nI (if i < n then gmo w r i n else 0)) n (by
    rintro a ⟨z, c⟩ ha ⟨rfl, g1, g2, g3⟩
    unfold jb_X6_grid_56
    dsimp only at g1 g2 g3 ⊢
    rw [g1, h0]
    by_cases c : a = n
    · subst c
      exact Or.inr ⟨z, if_pos (nI_le (Nat.le_refl _) (by omega)), g1, g2, g3⟩
    have ha2 : a < n := by omega
    obtain ⟨z', f1, f2, f3, f4⟩ := gr_in (t := z) (n := n) (w := w) (r := r) (a := a) (by rw [g1]; exact h0) hn hw0 hw hr ha2 (by rw [g3 a (by omega), if_neg (by omega)])
    rw [if_neg (nI_ge ha2 (by omega)), f1, dp_bd_some, nI_1]
    refine Or.inl ⟨_, rfl, ha2, rfl, f2.trans g1, fun a ha => (f3 a ha).trans (g2 a ha), fun i hi => ?_⟩
    dsimp only
    rw [f4 i hi]
    by_cases z1 : i = a
    · subst z1
      rw [if_pos rfl, if_pos (by omega)]
    · rw [if_neg z1, g3 i hi]
      by_cases z2 : i < a
      · rw [if_pos z2, if_pos (by omega)]
      · rw [if_neg z2, if_neg (by omega)]) dp_F 0 (t, 0) (Nat.zero_le _) (dp_F_lt (by omega) 0) ⟨rfl, rfl, fun _ _ => rfl, fun i hi => by rw [if_neg (by omega)]; exact hz i hi⟩
  exact ⟨t', e1, he⟩
/-- both sides laid anew, ahead of the restart -/
theorem sim_laid (hV : VN σ μ n w h d v k L) {w' h' r : Nat} (hw0 : 1 ≤ w') (hh0 : 1 ≤ h') (hn0 : 2 ≤ w' * h') (hn : w' * h' ≤ 12) (hr : r < 4) : ∃ σ1 μ1, j_X2_lay σ (nI w') (nI h') (nI r) = some σ1 ∧ dp_loop jb_X6_lays_28 dp_F (dp_sf (dp_sf (dp_sf (dp_sf (dp_sf μ 0 (nI (w' * h'))) 1 (nI w')) 2 (nI h')) 3 0) 11 0, 0) = some μ1 ∧
    (∀ i, i < 12 → σ1.2 0 i = nI (if i < w' * h' then gmo w' r i (w' * h') else 0)) ∧ (∀ i, i < 12 → μ1.2 0 i = nI 0) ∧ μ1.1 11 = 0 ∧
    ∀ (μ2 : dp_Z) (L' : Nat → Nat), (∀ k, k ≤ 5 → μ2.1 k = μ1.1 k) → μ2.2 1 = μ1.2 1 → (∀ i, i < 12 → L' i < 4096 ∧ σ1.2 0 i = nI (L' i) ∧ μ2.2 0 i = nI (L' i)) → VN σ1 μ2 (w' * h') w' h' 0 v k L' := by
  obtain ⟨⟨-, -, -, -, -, -, v4, k1, k6⟩, ⟨-, -, -, -, x4, x5⟩, ⟨-, -, -, -, y4, y5⟩, -, -⟩ := hV
  have hw : w' < 13 := by
    have := Nat.mul_le_mul_left w' hh0
    omega
  have hh : h' < 13 := by
    have := Nat.mul_le_mul_right h' hw0
    omega
  obtain ⟨σ1, e1, ⟨a1, a2, a3, a4, a5⟩, a6, a7, a8⟩ := x_lay σ hw hh hn hr
  obtain ⟨μ1, e2, b1, b2, b3⟩ := m_lays28 (dp_sf (dp_sf (dp_sf (dp_sf (dp_sf μ 0 (nI (w' * h'))) 1 (nI w')) 2 (nI h')) 3 0) 11 0)
  refine ⟨σ1, μ1, e1, e2, a8, fun i hi => (b3 i hi).1, by rw [b1, sf_eq], fun μ2 L' c1 c2 c3 => ?_⟩
  refine ⟨⟨hn0, hn, hw0, hh0, rfl, by omega, v4, k1, k6⟩, ⟨a2, a3, a4, a5, ?_, ?_⟩, ⟨?_, ?_, ?_, ?_, ?_, ?_⟩, c3, fun i hi => ⟨?_, Or.inl (a7 i hi)⟩⟩
  · rw [a1 4 (by decide) (by decide) (by decide) (by decide)]; exact x4
  · rw [a1 5 (by decide) (by decide) (by decide) (by decide)]; exact x5
  · rw [c1 0 (by decide), b1, sf_ne (by decide), sf_ne (by decide), sf_ne (by decide), sf_ne (by decide), sf_eq]
  · rw [c1 1 (by decide), b1, sf_ne (by decide), sf_ne (by decide), sf_ne (by decide), sf_eq]
  · rw [c1 2 (by decide), b1, sf_ne (by decide), sf_ne (by decide), sf_eq]
  · rw [c1 3 (by decide), b1, sf_ne (by decide), sf_eq]; rfl
  · rw [c1 4 (by decide), b1, sf_ne (by decide), sf_ne (by decide), sf_ne (by decide), sf_ne (by decide), sf_ne (by decide)]; exact y4
  · rw [c1 5 (by decide), b1, sf_ne (by decide), sf_ne (by decide), sf_ne (by decide), sf_ne (by decide), sf_ne (by decide)]; exact y5
  · rw [c2, (b3 i hi).2, a7 i hi]
theorem sim_net (hR : RR σ μ) (a : Int32) : ∃ r σ' μ', j_X5_net σ a = some (r, σ') ∧ j_X6_net μ a = some (r, μ') ∧ RR σ' μ' := by
  have hR0 := hR
  obtain ⟨n, w, h, d, v, k, L, hV, hS, hT, hC, hW, hL⟩ := hR
  unfold j_X5_net j_X6_net
  rcases wi a 2 12 (by decide) (by decide) with ⟨i, h1, h2, rfl, h4⟩ | ⟨h1, h2⟩
  · rw [show j_X6_within (nI i) 2 12 = some 1 from h4, if_neg (show ¬ nI i < (2 : Int32) from nI_nlt (b := 2) h1 (by omega)), if_pos (show nI i ≤ (12 : Int32) from nI_le (b := 12) h2 (by decide)), dp_bd_some, i10]
    unfold j_X5_layAnew j_X6_lays j_X1_forget
    obtain ⟨σ1, μ1, e1, e2, a1, a2, a3, a4⟩ := sim_laid hV (w' := i) (h' := 1) (r := 0) (by omega) (by decide) (by omega) (by omega) (by decide)
    rw [Nat.mul_one] at e2 a1 a4
    rw [show j_X2_lay σ (nI i) 1 0 = some σ1 from e1, dp_bd_some, dp_bd_some, dp_bd_some, x_forget, dp_bd_some, dp_bd_some, dp_bd_some, dp_bd_some, dp_bd_some, dp_bd_some, show dp_loop jb_X6_lays_28 dp_F (dp_sf (dp_sf (dp_sf (dp_sf (dp_sf μ 0 (nI i)) 1 (nI i)) 2 1) 3 0) 11 0, 0) = some μ1 from e2, dp_bd_some]
    have hV1 : VN (dp_sf σ1 13 0) μ1 i i 1 0 v k (fun _ => 0) := a4 μ1 (fun _ => 0) (fun _ _ => rfl) rfl (fun j hj => ⟨show (0 : Nat) < 4096 by decide, by rw [a1 j hj, gmo_zero]; split <;> rfl, a2 j hj⟩)
    obtain ⟨σ', μ', g1, g2, g3⟩ := sim_forget hV1 (RC.nil sf_eq a3)
    obtain ⟨n', w', h', d', v', k', L', hV', -⟩ := id g3
    rw [g1, g2, dp_bd_some, dp_bd_some, dp_bd_some, dp_bd_some]
    exact ⟨_, σ', μ', rfl, by rw [hV'.2.1.1, hV'.2.2.1.1], g3⟩
  · rw [show j_X6_within a 2 12 = some 0 from h2, dp_bd_some, i00]
    refine ⟨-2, σ, μ, ?_, rfl, hR0⟩
    rcases h1 with h1 | h1
    · rw [if_pos (show a < (2 : Int32) from h1)]
    · have := up_lt (lo := 2) (by decide) (by decide) h1
      rw [if_neg (show ¬ a < (2 : Int32) from this.1), if_neg (show ¬ a ≤ (12 : Int32) from this.2)]
theorem sim_grid_ok (hR : RR σ μ) {i j q : Nat} (hi : 1 ≤ i) (hj : 1 ≤ j) (h2 : 2 ≤ i * j) (h12 : i * j ≤ 12) (hq : q < 4) : ∃ r σ' μ', j_X5_layAnew σ (nI i) (nI j) (nI q) = some (r, σ') ∧ (dp_bd (j_X6_lays μ (nI (i * j)) (nI i) (nI j)) fun x5 => (dp_bd (dp_loop (jb_X6_grid_56 (nI i) (nI q)) dp_F (x5, 0)) fun x10 => (dp_bd (j_X6_begins x10) fun x11 => (some ((x11.1 0), x11))))) = some (r, μ') ∧ RR σ' μ' := by
  obtain ⟨n, w, h, d, v, k, L, hV, hS, hT, hC, hW, hL⟩ := hR
  have hw : i < 13 := by
    have := Nat.mul_le_mul_left i hj
    omega
  unfold j_X5_layAnew j_X6_lays j_X1_forget
  obtain ⟨σ1, μ1, e1, e2, a1, a2, a3, a4⟩ := sim_laid hV (w' := i) (h' := j) (r := q) hi hj h2 h12 hq
  rw [e1, dp_bd_some, dp_bd_some, dp_bd_some, x_forget, dp_bd_some, dp_bd_some, dp_bd_some, dp_bd_some, dp_bd_some, dp_bd_some, e2, dp_bd_some]
  -- the reference begins a run over the bare net first
  have hb : VN (dp_sf (dp_sf μ1 12 0) 13 0) (dp_sf (dp_sf μ1 12 0) 13 0) (i * j) i j 0 v k (fun _ => 0) := by
    have hv := a4 μ1 (fun m => if m < i * j then gmo i q m (i * j) else 0)
    obtain ⟨_, μx, f1, f2, b1, b2, b3, b4⟩ := sim_laid hV (w' := i) (h' := j) (r := 0) hi hj h2 h12 (by decide)
    have hmm : μx = μ1 := Option.some.inj (f2.symm.trans e2)
    subst hmm
    have hv1 := b4 μx (fun _ => 0) (fun _ _ => rfl) rfl (fun m hm => ⟨show (0 : Nat) < 4096 by decide, by rw [b1 m hm, gmo_zero]; split <;> rfl, b2 m hm⟩)
    obtain ⟨c1, -, c3, c4, c5⟩ := hv1
    exact ⟨c1, c3, c3, fun m hm => ⟨(c4 m hm).1, (c4 m hm).2.2, (c4 m hm).2.2⟩, fun m hm => ⟨rfl, by rw [sf_2, sf_2, (c5 m hm).1]; exact (c5 m hm).2⟩⟩
  obtain ⟨_, μ9, _, p2, _, _, _, _, p7⟩ := sim_restart hb
  have hf : j_X6_forgets μ1 = some μ9 := by
    unfold j_X6_forgets
    rw [dp_bd_some, dp_bd_some, p2, dp_bd_some]
  rw [hf, dp_bd_some, dp_bd_some]
  obtain ⟨μ10, q1, q2, q3, q4⟩ := gr_all (t := μ9) (n := i * j) (w := i) (r := q) (by rw [p7.1 0 (by decide) (by decide)]; exact hb.2.2.1.1) h12 hi hw hq (fun m hm => by rw [p7.2 0 (by decide) (by decide) (by decide) (by decide) (by decide)]; exact a2 m hm)
  rw [q1, dp_bd_some]
  have hV2 : VN (dp_sf (dp_sf (dp_sf (dp_sf σ1 13 0) 15 0) 14 0) 16 0) μ10 (i * j) i j 0 v k (fun m => if m < i * j then gmo i q m (i * j) else 0) := by
    refine a4 μ10 _ (fun m hm => ?_) ?_ (fun m hm => ⟨?_, a1 m hm, q4 m hm⟩)
    · rw [q2, p7.1 m (by omega) (by omega), sf_ne (by omega), sf_ne (by omega)]
    · rw [q3 1 (by decide), p7.2 1 (by decide) (by decide) (by decide) (by decide) (by decide)]; rfl
    · split
      · exact gmo_lt _ _ _ _ h12
      · decide
  obtain ⟨σ', μ', g1, g2, hV', hS', hT', hX, hM⟩ := sim_restart hV2
  have m11 : μ10.1 11 = 0 := by rw [q2, p7.1 11 (by decide) (by decide), sf_ne (by decide), sf_ne (by decide)]; exact a3
  have m12 : μ10.1 12 = 0 := by rw [q2, p7.1 12 (by decide) (by decide), sf_ne (by decide), sf_eq]
  have m13 : μ10.1 13 = 0 := by rw [q2, p7.1 13 (by decide) (by decide), sf_eq]
  rw [g1, g2, dp_bd_some, dp_bd_some]
  refine ⟨_, σ', μ', rfl, by rw [hV'.2.1.1, hV'.2.2.1.1], i * j, i, j, 0, v, k, _, hV', hS', hT', (RC.nil ?_ m11 : RC (dp_sf (dp_sf (dp_sf (dp_sf σ1 13 0) 15 0) 14 0) 16 0) μ10).keep hX hM, (RW.nil ?_ ?_ m12 : RW (dp_sf (dp_sf (dp_sf (dp_sf σ1 13 0) 15 0) 14 0) 16 0) μ10 0).keep hX hM, (RL.nil ?_ m13 : RL (dp_sf (dp_sf (dp_sf (dp_sf σ1 13 0) 15 0) 14 0) 16 0) μ10 0).keep hX hM⟩
  · rw [sf_ne (by decide), sf_ne (by decide), sf_ne (by decide), sf_eq]
  · rw [sf_ne (by decide), sf_ne (by decide), sf_eq]
  · rw [sf_ne (by decide), sf_eq]
  · rw [sf_eq]
theorem sim_grid (hR : RR σ μ) (a b c : Int32) : ∃ r σ' μ', j_X5_grid σ a b c = some (r, σ') ∧ j_X6_grid μ a b c = some (r, μ') ∧ RR σ' μ' := by
  unfold j_X5_grid j_X6_grid
  have no : ∀ {A : Option (Int32 × dp_Z)} {B : Option (Int32 × dp_Z)}, A = some (-2, σ) → B = some (-2, μ) → ∃ r σ' μ', A = some (r, σ') ∧ B = some (r, μ') ∧ RR σ' μ' := fun e1 e2 => ⟨-2, σ, μ, e1, e2, hR⟩
  rcases wi a 1 12 (by decide) (by decide) with ⟨i, h1, h2, rfl, h4⟩ | ⟨h1, h2⟩
  rotate_left
  · rw [show j_X6_within a 1 12 = some 0 from h2, dp_bd_some, i00]
    refine no ?_ rfl
    rcases h1 with h1 | h1
    · rw [if_pos (show a < (1 : Int32) from h1)]
    · have := up_lt (lo := 1) (by decide) (by decide) h1
      rw [if_neg (show ¬ a < (1 : Int32) from this.1), if_pos (show (12 : Int32) < a from h1)]
  rw [show j_X6_within (nI i) 1 12 = some 1 from h4, dp_bd_some, i10, if_neg (show ¬ nI i < (1 : Int32) from nI_nlt (b := 1) h1 (by omega)), if_neg (show ¬ (12 : Int32) < nI i from nI_nlt (a := 12) h2 (by decide))]
  rcases wi b 1 12 (by decide) (by decide) with ⟨j, g1, g2, rfl, g4⟩ | ⟨g1, g2⟩
  rotate_left
  · rw [show j_X6_within b 1 12 = some 0 from g2, dp_bd_some, i00]
    refine no ?_ rfl
    rcases g1 with g1 | g1
    · rw [if_pos (show b < (1 : Int32) from g1)]
    · have := up_lt (lo := 1) (by decide) (by decide) g1
      rw [if_neg (show ¬ b < (1 : Int32) from this.1), if_neg (show ¬ b ≤ (12 : Int32) from this.2)]
  rw [show j_X6_within (nI j) 1 12 = some 1 from g4, dp_bd_some, i10, if_neg (show ¬ nI j < (1 : Int32) from nI_nlt (b := 1) g1 (by omega)), if_pos (show nI j ≤ (12 : Int32) from nI_le (b := 12) g2 (by decide)), pk_mul]
  have hm : i * j ≤ 12 * 12 := Nat.mul_le_mul h2 g2
  rcases wi (nI (i * j)) 2 12 (by decide) (by decide) with ⟨m, p1, p2, p3, p4⟩ | ⟨p1, p2⟩
  rotate_left
  · rw [show j_X6_within (nI (i * j)) 2 12 = some 0 from p2, dp_bd_some, i00]
    refine no ?_ rfl
    rcases p1 with p1 | p1
    · rw [if_pos (show nI (i * j) < (2 : Int32) from p1)]
    · have := up_lt (lo := 2) (by decide) (by decide) p1
      rw [if_neg (show ¬ nI (i * j) < (2 : Int32) from this.1), if_pos (show (12 : Int32) < nI (i * j) from p1)]
  have hmm : i * j = m := nI_inj (by omega) (by omega) p3
  rw [show j_X6_within (nI (i * j)) 2 12 = some 1 from p4, dp_bd_some, i10, if_neg (show ¬ nI (i * j) < (2 : Int32) from nI_nlt (b := 2) (by omega) (by omega)), if_neg (show ¬ (12 : Int32) < nI (i * j) from nI_nlt (a := 12) (by omega) (by decide))]
  rcases wi c 1 3 (by decide) (by decide) with ⟨q, f1, f2, rfl, f4⟩ | ⟨f1, f2⟩
  rotate_left
  · rw [show j_X6_within c 1 3 = some 0 from f2, dp_bd_some, i00]
    refine no ?_ rfl
    rcases f1 with f1 | f1
    · rw [if_pos (show c < (1 : Int32) from f1)]
    · have := up_lt (lo := 1) (by decide) (by decide) f1
      rw [if_neg (show ¬ c < (1 : Int32) from this.1), if_neg (show ¬ c ≤ (3 : Int32) from this.2)]
  rw [show j_X6_within (nI q) 1 3 = some 1 from f4, dp_bd_some, i10, if_neg (show ¬ nI q < (1 : Int32) from nI_nlt (b := 1) f1 (by omega)), if_pos (show nI q ≤ (3 : Int32) from nI_le (b := 3) f2 (by decide))]
  obtain ⟨r, σ', μ', t1, t2, t3⟩ := sim_grid_ok hR h1 g1 (by omega) (by omega) (show q < 4 by omega)
  refine ⟨r, σ', μ', ?_, t2, t3⟩
  rw [t1, dp_bd_some]
end OC
