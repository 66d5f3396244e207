/-! ===== 47: all calls in step; the start ===== -/
section AS
variable {σ σ' μ μ' : dp_Z}
theorem pure2 (hR : RR σ μ) {f g : Option Int32} (h : ∃ r, f = some r ∧ g = some r) : ∃ r σ' μ', (dp_bd f fun r => some (r, σ)) = some (r, σ') ∧ (dp_bd g fun r => some (r, μ)) = some (r, μ') ∧ RR σ' μ' := by
  obtain ⟨r, rfl, rfl⟩ := h
  exact ⟨r, σ, μ, rfl, rfl, hR⟩
theorem pureX {f : Option Int32} {g : Option (Int32 × dp_Z)} (h : ∃ r μ', f = some r ∧ g = some (r, μ') ∧ RR σ μ') : ∃ r σ' μ', (dp_bd f fun r => some (r, σ)) = some (r, σ') ∧ g = some (r, μ') ∧ RR σ' μ' := by
  obtain ⟨r, μ', rfl, rfl, h⟩ := h
  exact ⟨r, σ, μ', rfl, rfl, h⟩
theorem pureM {f : Option (Int32 × dp_Z)} {g : Option Int32} (h : ∃ r σ', f = some (r, σ') ∧ g = some r ∧ RR σ' μ) : ∃ r σ' μ', f = some (r, σ') ∧ (dp_bd g fun r => some (r, μ)) = some (r, μ') ∧ RR σ' μ' := by
  obtain ⟨r, σ', rfl, rfl, h⟩ := h
  exact ⟨r, σ', μ, rfl, rfl, h⟩
theorem all_sim : lw_sim RR := by
  intro σ μ hR k a b c hk
  match k, hk with
  | 0, _ => exact sim_net hR a
  | 1, _ => exact sim_grid hR a b c
  | 2, _ => exact sim_edge hR a b c
  | 3, _ => exact pure2 hR (sim_neighbours hR a)
  | 4, _ => exact sim_dealer hR a b
  | 5, _ => exact sim_need hR a
  | 6, _ => exact sim_lie hR a b
  | 7, _ => exact sim_begin hR
  | 8, _ => exact sim_ticks hR a
  | 9, _ => exact pure2 hR (sim_node hR a b)
  | 10, _ => exact pure2 hR (sim_band hR a b)
  | 11, _ => exact pure2 hR (sim_sort hR a)
  | 12, _ => exact pure2 hR (sim_crowded hR a)
  | 13, _ => exact pure2 hR (sim_reached hR a)
  | 14, _ => exact sim_worst hR a
  | 15, _ => exact pureX (sim_bears hR)
  | 16, _ => exact sim_name hR a
  | 17, _ => exact pure2 hR (sim_named hR a)
  | 18, _ => exact sim_walk hR a
  | 19, _ => exact sim_tell hR a
  | 20, _ => exact sim_drop hR
  | 21, _ => exact pure2 hR (sim_claim hR a b)
  | 22, _ => exact pureM (sim_proof hR a b)
  | 23, _ => exact pureM (sim_believes hR a)
  | 24, _ => exact pure2 hR (sim_many hR a)
  | k + 25, hk => omega
theorem init122 (s : dp_Z) : ∃ t, dp_loop jb_X6_init_122 dp_F (s, 0) = some t ∧ t.1 = s.1 ∧ (∀ a, a ≠ 1 → t.2 a = s.2 a) ∧ ∀ i, i < 12 → t.2 1 i = -9 := by
  obtain ⟨r, e1, he⟩ := dp_run (b := jb_X6_init_122) (fun i x => x.2 = nI i ∧ x.1.1 = s.1 ∧ (∀ a, a ≠ 1 → x.1.2 a = s.2 a) ∧ ∀ j, j < i → x.1.2 1 j = -9) (fun r => r.1 = s.1 ∧ (∀ a, a ≠ 1 → r.2 a = s.2 a) ∧ ∀ j, j < 12 → r.2 1 j = -9) 12 (by
    rintro i ⟨x, c⟩ hi ⟨rfl, h1, h2, h3⟩
    unfold jb_X6_init_122
    dsimp only at h1 h2 h3 ⊢
    by_cases z : i = 12
    · subst z
      exact Or.inr ⟨x, if_pos (nI_le (b := 12) (Nat.le_refl _) (by decide)), h1, h2, h3⟩
    rw [if_neg (show ¬ (12 : Int32) ≤ nI i from nI_ge (b := 12) (by omega) (by decide)), if_pos (dp_inb_nI (by omega) (by decide)), dp_bd_some, nI_clamp (by omega), nI_1]
    refine Or.inl ⟨_, rfl, by omega, rfl, h1, fun a ha => (sr_ne ha).trans (h2 a ha), fun j hj => ?_⟩
    dsimp only
    rw [sr_eq]
    by_cases y : j = i
    · subst y; rw [up_eq]
    · rw [up_ne y]; exact h3 j (by omega)) dp_F 0 (s, 0) (Nat.zero_le _) (dp_F_lt (by decide) 0) ⟨rfl, rfl, fun _ _ => rfl, fun j hj => absurd hj (Nat.not_lt_zero j)⟩
  exact ⟨r, e1, he⟩
theorem all_start : ∃ σ0 μ0, j_X5_init = some σ0 ∧ j_X6_init = some μ0 ∧ RR σ0 μ0 := by
  obtain ⟨s, e1, ⟨a1, a2, a3, a4, a5⟩, a6, a7, a8⟩ := x_lay zN (w := 2) (h := 1) (r := 0) (by decide) (by decide) (by decide) (by decide)
  obtain ⟨t, f1, b1, b2, b3⟩ := init122 z6
  have hz : ∀ i, i < 12 → s.2 0 i = nI 0 := fun i hi => by
    rw [a8 i hi]
    split
    · rw [gmo_zero]
    · rfl
  have hV : VN (zc s) t 2 2 1 0 0 1 (fun _ => 0) := by
    refine ⟨by decide, ⟨a2, a3, a4, a5, ?_, ?_⟩, ?_, fun i hi => ⟨show 0 < 4096 by decide, hz i hi, ?_⟩, fun i hi => ⟨?_, Or.inl (a7 i hi)⟩⟩
    · show s.1 4 = nI 0
      rw [a1 4 (by decide) (by decide) (by decide) (by decide)]; rfl
    · show s.1 5 = nI 1
      rw [a1 5 (by decide) (by decide) (by decide) (by decide)]; rfl
    · rw [b1]; exact ⟨rfl, rfl, rfl, rfl, rfl, rfl⟩
    · rw [b2 0 (by decide)]; rfl
    · rw [b3 i hi]; exact (a7 i hi).symm
  obtain ⟨σ', μ', g1, g2, hV', hS', hT', hX, hM⟩ := sim_restart hV
  refine ⟨σ', μ', ?_, ?_, 2, 2, 1, 0, 0, 1, fun _ => 0, hV', hS', hT', RC.nil ?_ ?_, RW.nil ?_ ?_ ?_, RL.nil ?_ ?_⟩
  · unfold j_X5_init j_X2_init
    rw [show j_X2_lay zN 2 1 0 = some s from e1, dp_bd_some, g1]
  · unfold j_X6_init
    rw [f1, dp_bd_some, g2, dp_bd_some]
  · rw [hX.1 13 (by decide) (by decide) (by decide)]; rfl
  · rw [hM.1 11 (by decide) (by decide), b1]; rfl
  · rw [hX.1 15 (by decide) (by decide) (by decide)]; rfl
  · rw [hX.1 14 (by decide) (by decide) (by decide)]; rfl
  · rw [hM.1 12 (by decide) (by decide), b1]; rfl
  · rw [hX.1 16 (by decide) (by decide) (by decide)]; rfl
  · rw [hM.1 13 (by decide) (by decide), b1]; rfl
end AS
