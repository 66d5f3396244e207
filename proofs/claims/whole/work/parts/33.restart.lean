/-! ===== 33: a run begins anew ===== -/
section ST
variable {s : dp_Z} {a b k : Nat} {x : Int32} {f : Nat → Int32}
theorem sr_eq : (dp_sr s a f).2 a = f := if_pos rfl
theorem sr_ne (h : b ≠ a) : (dp_sr s a f).2 b = s.2 b := if_neg h
theorem sr_1 : (dp_sr s a f).1 = s.1 := rfl
theorem sf_eq : (dp_sf s k x).1 k = x := if_pos rfl
theorem sf_ne (h : b ≠ k) : (dp_sf s k x).1 b = s.1 b := if_neg h
theorem sf_2 : (dp_sf s k x).2 = s.2 := rfl
theorem up_eq {g : Nat → Int32} : upd g k x k = x := if_pos rfl
theorem up_ne {g : Nat → Int32} (h : b ≠ k) : upd g k x b = g b := if_neg h
end ST
theorem sim_slots {σ μ : dp_Z} {n w h d v k : Nat} {L : Nat → Nat} (hV : VN σ μ n w h d v k L) : ∃ σ' μ', j_X3_dealSlots σ = some σ' ∧ j_X6_dealsSlots μ = some μ' ∧ RS σ' μ' n ∧ (∀ k, k ≠ 6 → σ'.1 k = σ.1 k) ∧ (∀ a, a ≠ 2 → σ'.2 a = σ.2 a) ∧ (∀ k, k ≠ 6 → μ'.1 k = μ.1 k) ∧ ∀ a, a ≠ 2 → μ'.2 a = μ.2 a := by
  obtain ⟨⟨n1, n2, -⟩, ⟨x0, -⟩, ⟨y0, -⟩, hL, -⟩ := hV
  unfold j_X3_dealSlots j_X6_dealsSlots
  rw [dp_bd_some, dp_bd_some]
  obtain ⟨r, q, e1, e2, he⟩ := dp_rel (b1 := jb_X3_dealSlots_7) (b2 := jb_X6_dealsSlots_7)
    (fun i x y => (x.2 = nI i ∧ y.2 = nI i) ∧ ((∀ k, k ≠ 6 → x.1.1 k = σ.1 k) ∧ (∀ a, a ≠ 2 → x.1.2 a = σ.2 a) ∧ (∀ k, k ≠ 6 → y.1.1 k = μ.1 k) ∧ ∀ a, a ≠ 2 → y.1.2 a = μ.2 a) ∧ ∃ r S, r ≤ 12 ∧ (0 < i → 1 ≤ r) ∧ x.1.1 6 = nI (max 1 r) ∧ y.1.1 6 = nI r ∧ ∀ j, j < i → S j ≤ j ∧ x.1.2 2 j = nI (S j) ∧ y.1.2 2 j = nI (S j))
    (fun r q => ((∀ k, k ≠ 6 → r.1 k = σ.1 k) ∧ (∀ a, a ≠ 2 → r.2 a = σ.2 a) ∧ (∀ k, k ≠ 6 → q.1 k = μ.1 k) ∧ ∀ a, a ≠ 2 → q.2 a = μ.2 a) ∧ RS r q n) n (by
    rintro i ⟨x, cx⟩ ⟨y, cy⟩ hi ⟨⟨rfl, rfl⟩, ⟨a1, a2, a3, a4⟩, r, S, hr, hr1, hx6, hy6, hS⟩
    unfold jb_X3_dealSlots_7 jb_X6_dealsSlots_7
    dsimp only at a1 a2 a3 a4 hx6 hy6 hS ⊢
    rw [a1 0 (by decide), a3 0 (by decide), x0, y0]
    by_cases c : i = n
    · subst c
      refine Or.inr ⟨x, y, if_pos (nI_le (Nat.le_refl _) (by omega)), if_pos (nI_le (Nat.le_refl _) (by omega)), ⟨a1, a2, a3, a4⟩, r, S, ⟨hr1 (by omega), hr⟩, ?_, hy6, fun j hj => ⟨by have := (hS j hj).1; omega, (hS j hj).2⟩⟩
      rw [hx6, Nat.max_eq_right (hr1 (by omega))]
    have hi2 : i < n := by omega
    have hLx : ∀ i, i < 12 → L i < 4096 ∧ x.2 0 i = nI (L i) := fun i hi => ⟨(hL i hi).1, by rw [a2 0 (by decide)]; exact (hL i hi).2.1⟩
    have hLy : ∀ i, i < 12 → L i < 4096 ∧ y.2 0 i = nI (L i) := fun i hi => ⟨(hL i hi).1, by rw [a4 0 (by decide)]; exact (hL i hi).2.2⟩
    obtain ⟨f, hf1, hf2⟩ := pk_least (fun b => ¬ ∃ j, j < i ∧ S j = b ∧ nearB L j i) ⟨i, fun ⟨j, z1, z2, _⟩ => by have := (hS j z1).1; omega⟩
    have hfi : f ≤ i := by
      rcases Nat.lt_or_ge i f with z | z
      · exact absurd (fun ⟨j, z1, z2, _⟩ => by have := (hS j z1).1; omega) (hf2 i z)
      · exact z
    have hf3 : ∀ b, b < f → ∃ j, j < i ∧ S j = b ∧ nearB L j i := fun b hb => Classical.not_not.mp (hf2 b hb)
    obtain ⟨U, hU, g1, g2⟩ := sl_near hLx (i := i) (S := S) (by omega) (fun j hj => ⟨by have := (hS j hj).1; omega, (hS j hj).2.1⟩)
    have g3 := sl_free (f := f) hU (by omega) (by
      cases hz : U.testBit f with
      | false => rfl
      | true => exact absurd ((g2 f).mp hz) hf1) (fun b hb => (g2 b).mpr (hf3 b hb))
    have g4 := sl_first hLy (i := i) (S := S) (f := f) (by omega) (fun j hj => ⟨by have := (hS j hj).1; omega, (hS j hj).2.2⟩) (by omega) hf1 hf3
    rw [if_neg (nI_ge hi2 (by omega)), if_neg (nI_ge hi2 (by omega)), g1, dp_bd_some, g3, dp_bd_some, g4, dp_bd_some, if_pos (dp_inb_nI (by omega) (by decide)), if_pos (dp_inb_nI (by omega) (by decide)), dp_bd_some, dp_bd_some, if_pos (dp_inb_nI (by omega) (by decide)), dp_bd_some, nI_clamp (by omega)]
    rw [sr_1, sr_1, sr_eq, up_eq, hx6, hy6, nI_1, nI_1]
    have hjj : ∀ t, jj_X6_dealsSlots_60 (dp_sr y 2 (upd (y.2 2) i (nI f))) (nI i) t = some (.inl (dp_sf (dp_sr y 2 (upd (y.2 2) i (nI f))) 6 t, nI (i + 1))) := by
      intro t
      unfold jj_X6_dealsSlots_60
      rw [dp_bd_some, nI_1]
    rw [hjj, hjj]
    have hif1 : (if nI (max 1 r) < nI (f + 1) then nI (f + 1) else nI (max 1 r)) = nI (max 1 (max r (f + 1))) := by
      by_cases z : max 1 r < f + 1
      · rw [if_pos (nI_lt z (by omega))]
        congr 1
        omega
      · rw [if_neg (nI_nlt (by omega) (by omega))]
        congr 1
        omega
    have hif2 : (if nI (f + 1) ≤ nI r then (some (Sum.inl (dp_sf (dp_sr y 2 (upd (y.2 2) i (nI f))) 6 (nI r), nI (i + 1))) : Option ((dp_Z × Int32) ⊕ dp_Z)) else some (Sum.inl (dp_sf (dp_sr y 2 (upd (y.2 2) i (nI f))) 6 (nI (f + 1)), nI (i + 1)))) = some (Sum.inl (dp_sf (dp_sr y 2 (upd (y.2 2) i (nI f))) 6 (nI (max r (f + 1))), nI (i + 1))) := by
      by_cases z : f + 1 ≤ r
      · rw [if_pos (nI_le z (by omega)), Nat.max_eq_left z]
      · rw [if_neg (nI_ge (by omega) (by omega)), Nat.max_eq_right (by omega)]
    rw [hif1, hif2]
    refine Or.inl ⟨_, _, rfl, rfl, hi2, ⟨rfl, rfl⟩, ⟨fun k hk => ?_, fun a ha => ?_, fun k hk => ?_, fun a ha => ?_⟩, max r (f + 1), fun j => if j = i then f else S j, by omega, fun _ => by omega, sf_eq, sf_eq, fun j hj => ?_⟩
    · dsimp only
      rw [sf_ne hk, sr_1]; exact a1 k hk
    · dsimp only
      rw [sf_2, sr_ne ha]; exact a2 a ha
    · dsimp only
      rw [sf_ne hk, sr_1]; exact a3 k hk
    · dsimp only
      rw [sf_2, sr_ne ha]; exact a4 a ha
    · dsimp only
      rw [sf_2, sf_2, sr_eq, sr_eq]
      by_cases z : j = i
      · subst z
        rw [if_pos rfl, up_eq, up_eq]
        exact ⟨hfi, rfl, rfl⟩
      · rw [if_neg z, up_ne z, up_ne z]
        exact hS j (by omega)) dp_F 0 (dp_sf σ 6 1, 0) (dp_sf μ 6 0, 0) (Nat.zero_le _) (dp_F_lt (by omega) 0) ⟨⟨rfl, rfl⟩, ⟨fun k hk => sf_ne hk, fun a _ => rfl, fun k hk => sf_ne hk, fun a _ => rfl⟩, 0, fun _ => 0, by decide, fun z => absurd z (by decide), sf_eq, sf_eq, fun j hj => absurd hj (Nat.not_lt_zero j)⟩
  exact ⟨r, q, by rw [e1]; rfl, by rw [e2]; rfl, he.2, he.1.1, he.1.2.1, he.1.2.2.1, he.1.2.2.2⟩

theorem fill_q3 (s : dp_Z) (v : Int32) : ∃ s', j_J7_fill_53178_q3 s v = some s' ∧ s'.1 = s.1 ∧ (∀ a, a ≠ 1 → s'.2 a = s.2 a) ∧ ∀ i, i < 12 → s'.2 1 i = v := by
  unfold j_J7_fill_53178_q3
  obtain ⟨r, e1, he⟩ := dp_run (b := jb_J7_fill_53178_q3_5 v (Int32.ofNat 12)) (fun i x => x.2 = nI i ∧ x.1.1 = s.1 ∧ (∀ a, a ≠ 1 → x.1.2 a = s.2 a) ∧ ∀ j, j < i → x.1.2 1 j = v) (fun r => r.1 = s.1 ∧ (∀ a, a ≠ 1 → r.2 a = s.2 a) ∧ ∀ i, i < 12 → r.2 1 i = v) 12 (by
    rintro i ⟨x, c⟩ hi ⟨rfl, h1, h2, h3⟩
    unfold jb_J7_fill_53178_q3_5
    dsimp only at h1 h2 h3 ⊢
    by_cases z : i = 12
    · subst z
      exact Or.inr ⟨x, if_pos (nI_le (Nat.le_refl _) (by decide)), h1, h2, h3⟩
    rw [if_neg (show ¬ Int32.ofNat 12 ≤ nI i from nI_ge (b := 12) (by omega) (by decide)), if_pos (dp_inb_nI (by omega) (by decide)), dp_bd_some, nI_clamp (by omega), nI_1]
    refine Or.inl ⟨_, rfl, by omega, rfl, h1, fun a ha => (sr_ne ha).trans (h2 a ha), fun j hj => ?_⟩
    dsimp only
    rw [sr_eq]
    by_cases y : j = i
    · subst y; exact up_eq
    · rw [up_ne y]; exact h3 j (by omega)) dp_F 0 (s, 0) (Nat.zero_le _) (dp_F_lt (by decide) 0) ⟨rfl, rfl, fun _ _ => rfl, fun j hj => absurd hj (Nat.not_lt_zero j)⟩
  exact ⟨r, by rw [e1]; rfl, he⟩

theorem fill_q2 (s : dp_Z) (v : Int32) : ∃ s', j_J7_fill_53178_q2 s v = some s' ∧ s'.1 = s.1 ∧ (∀ a, a ≠ 0 → s'.2 a = s.2 a) ∧ ∀ i, i < 12 → s'.2 0 i = v := by
  unfold j_J7_fill_53178_q2
  obtain ⟨r, e1, he⟩ := dp_run (b := jb_J7_fill_53178_q2_5 v (Int32.ofNat 12)) (fun i x => x.2 = nI i ∧ x.1.1 = s.1 ∧ (∀ a, a ≠ 0 → x.1.2 a = s.2 a) ∧ ∀ j, j < i → x.1.2 0 j = v) (fun r => r.1 = s.1 ∧ (∀ a, a ≠ 0 → r.2 a = s.2 a) ∧ ∀ i, i < 12 → r.2 0 i = v) 12 (by
    rintro i ⟨x, c⟩ hi ⟨rfl, h1, h2, h3⟩
    unfold jb_J7_fill_53178_q2_5
    dsimp only at h1 h2 h3 ⊢
    by_cases z : i = 12
    · subst z
      exact Or.inr ⟨x, if_pos (nI_le (Nat.le_refl _) (by decide)), h1, h2, h3⟩
    rw [if_neg (show ¬ Int32.ofNat 12 ≤ nI i from nI_ge (b := 12) (by omega) (by decide)), if_pos (dp_inb_nI (by omega) (by decide)), dp_bd_some, nI_clamp (by omega), nI_1]
    refine Or.inl ⟨_, rfl, by omega, rfl, h1, fun a ha => (sr_ne ha).trans (h2 a ha), fun j hj => ?_⟩
    dsimp only
    rw [sr_eq]
    by_cases y : j = i
    · subst y; exact up_eq
    · rw [up_ne y]; exact h3 j (by omega)) dp_F 0 (s, 0) (Nat.zero_le _) (dp_F_lt (by decide) 0) ⟨rfl, rfl, fun _ _ => rfl, fun j hj => absurd hj (Nat.not_lt_zero j)⟩
  exact ⟨r, by rw [e1]; rfl, he⟩

theorem fill_q6 (s : dp_Z) (v : Int32) : ∃ s', j_J7_fill_53178_q6 s v = some s' ∧ s'.1 = s.1 ∧ (∀ a, a ≠ 3 → s'.2 a = s.2 a) ∧ ∀ i, i < 12 → s'.2 3 i = v := by
  unfold j_J7_fill_53178_q6
  obtain ⟨r, e1, he⟩ := dp_run (b := jb_J7_fill_53178_q6_5 v (Int32.ofNat 12)) (fun i x => x.2 = nI i ∧ x.1.1 = s.1 ∧ (∀ a, a ≠ 3 → x.1.2 a = s.2 a) ∧ ∀ j, j < i → x.1.2 3 j = v) (fun r => r.1 = s.1 ∧ (∀ a, a ≠ 3 → r.2 a = s.2 a) ∧ ∀ i, i < 12 → r.2 3 i = v) 12 (by
    rintro i ⟨x, c⟩ hi ⟨rfl, h1, h2, h3⟩
    unfold jb_J7_fill_53178_q6_5
    dsimp only at h1 h2 h3 ⊢
    by_cases z : i = 12
    · subst z
      exact Or.inr ⟨x, if_pos (nI_le (Nat.le_refl _) (by decide)), h1, h2, h3⟩
    rw [if_neg (show ¬ Int32.ofNat 12 ≤ nI i from nI_ge (b := 12) (by omega) (by decide)), if_pos (dp_inb_nI (by omega) (by decide)), dp_bd_some, nI_clamp (by omega), nI_1]
    refine Or.inl ⟨_, rfl, by omega, rfl, h1, fun a ha => (sr_ne ha).trans (h2 a ha), fun j hj => ?_⟩
    dsimp only
    rw [sr_eq]
    by_cases y : j = i
    · subst y; exact up_eq
    · rw [up_ne y]; exact h3 j (by omega)) dp_F 0 (s, 0) (Nat.zero_le _) (dp_F_lt (by decide) 0) ⟨rfl, rfl, fun _ _ => rfl, fun j hj => absurd hj (Nat.not_lt_zero j)⟩
  exact ⟨r, by rw [e1]; rfl, he⟩

theorem fill_q7 (s : dp_Z) (v : Int32) : ∃ s', j_J7_fill_53178_q7 s v = some s' ∧ s'.1 = s.1 ∧ (∀ a, a ≠ 4 → s'.2 a = s.2 a) ∧ ∀ i, i < 12 → s'.2 4 i = v := by
  unfold j_J7_fill_53178_q7
  obtain ⟨r, e1, he⟩ := dp_run (b := jb_J7_fill_53178_q7_5 v (Int32.ofNat 12)) (fun i x => x.2 = nI i ∧ x.1.1 = s.1 ∧ (∀ a, a ≠ 4 → x.1.2 a = s.2 a) ∧ ∀ j, j < i → x.1.2 4 j = v) (fun r => r.1 = s.1 ∧ (∀ a, a ≠ 4 → r.2 a = s.2 a) ∧ ∀ i, i < 12 → r.2 4 i = v) 12 (by
    rintro i ⟨x, c⟩ hi ⟨rfl, h1, h2, h3⟩
    unfold jb_J7_fill_53178_q7_5
    dsimp only at h1 h2 h3 ⊢
    by_cases z : i = 12
    · subst z
      exact Or.inr ⟨x, if_pos (nI_le (Nat.le_refl _) (by decide)), h1, h2, h3⟩
    rw [if_neg (show ¬ Int32.ofNat 12 ≤ nI i from nI_ge (b := 12) (by omega) (by decide)), if_pos (dp_inb_nI (by omega) (by decide)), dp_bd_some, nI_clamp (by omega), nI_1]
    refine Or.inl ⟨_, rfl, by omega, rfl, h1, fun a ha => (sr_ne ha).trans (h2 a ha), fun j hj => ?_⟩
    dsimp only
    rw [sr_eq]
    by_cases y : j = i
    · subst y; exact up_eq
    · rw [up_ne y]; exact h3 j (by omega)) dp_F 0 (s, 0) (Nat.zero_le _) (dp_F_lt (by decide) 0) ⟨rfl, rfl, fun _ _ => rfl, fun j hj => absurd hj (Nat.not_lt_zero j)⟩
  exact ⟨r, by rw [e1]; rfl, he⟩

theorem fill_q8 (s : dp_Z) (v : Int32) : ∃ s', j_J7_fill_53178_q8 s v = some s' ∧ s'.1 = s.1 ∧ (∀ a, a ≠ 5 → s'.2 a = s.2 a) ∧ ∀ i, i < 48 → s'.2 5 i = v := by
  unfold j_J7_fill_53178_q8
  obtain ⟨r, e1, he⟩ := dp_run (b := jb_J7_fill_53178_q8_5 v (Int32.ofNat 48)) (fun i x => x.2 = nI i ∧ x.1.1 = s.1 ∧ (∀ a, a ≠ 5 → x.1.2 a = s.2 a) ∧ ∀ j, j < i → x.1.2 5 j = v) (fun r => r.1 = s.1 ∧ (∀ a, a ≠ 5 → r.2 a = s.2 a) ∧ ∀ i, i < 48 → r.2 5 i = v) 48 (by
    rintro i ⟨x, c⟩ hi ⟨rfl, h1, h2, h3⟩
    unfold jb_J7_fill_53178_q8_5
    dsimp only at h1 h2 h3 ⊢
    by_cases z : i = 48
    · subst z
      exact Or.inr ⟨x, if_pos (nI_le (Nat.le_refl _) (by decide)), h1, h2, h3⟩
    rw [if_neg (show ¬ Int32.ofNat 48 ≤ nI i from nI_ge (b := 48) (by omega) (by decide)), if_pos (dp_inb_nI (by omega) (by decide)), dp_bd_some, nI_clamp (by omega), nI_1]
    refine Or.inl ⟨_, rfl, by omega, rfl, h1, fun a ha => (sr_ne ha).trans (h2 a ha), fun j hj => ?_⟩
    dsimp only
    rw [sr_eq]
    by_cases y : j = i
    · subst y; exact up_eq
    · rw [up_ne y]; exact h3 j (by omega)) dp_F 0 (s, 0) (Nat.zero_le _) (dp_F_lt (by decide) 0) ⟨rfl, rfl, fun _ _ => rfl, fun j hj => absurd hj (Nat.not_lt_zero j)⟩
  exact ⟨r, by rw [e1]; rfl, he⟩

theorem begins_11 (s : dp_Z) : ∃ s', dp_loop jb_X6_begins_11 dp_F (s, 0) = some s' ∧ s'.1 = s.1 ∧ (∀ a, a ≠ 3 → a ≠ 4 → a ≠ 5 → s'.2 a = s.2 a) ∧ ∀ i, i < 12 → s'.2 3 i = -9 ∧ s'.2 4 i = -9 ∧ s'.2 5 i = 0 := by
  obtain ⟨r, e1, he⟩ := dp_run (b := jb_X6_begins_11) (fun i x => x.2 = nI i ∧ x.1.1 = s.1 ∧ (∀ a, a ≠ 3 → a ≠ 4 → a ≠ 5 → x.1.2 a = s.2 a) ∧ ∀ j, j < i → x.1.2 3 j = -9 ∧ x.1.2 4 j = -9 ∧ x.1.2 5 j = 0) (fun r => r.1 = s.1 ∧ (∀ a, a ≠ 3 → a ≠ 4 → a ≠ 5 → r.2 a = s.2 a) ∧ ∀ j, j < 12 → r.2 3 j = -9 ∧ r.2 4 j = -9 ∧ r.2 5 j = 0) 12 (by
    rintro i ⟨x, c⟩ hi ⟨rfl, h1, h2, h3⟩
    unfold jb_X6_begins_11
    dsimp only at h1 h2 h3 ⊢
    by_cases z : i = 12
    · subst z
      exact Or.inr ⟨x, if_pos (nI_le (b := 12) (Nat.le_refl _) (by decide)), h1, h2, h3⟩
    rw [if_neg (show ¬ (12 : Int32) ≤ nI i from nI_ge (b := 12) (by omega) (by decide)), if_pos (dp_inb_nI (by omega) (by decide)), dp_bd_some, if_pos (dp_inb_nI (by omega) (by decide)), dp_bd_some, if_pos (dp_inb_nI (by omega) (by decide)), dp_bd_some, nI_clamp (by omega), nI_1]
    refine Or.inl ⟨_, rfl, by omega, rfl, h1, fun a ha hb hc => ?_, fun j hj => ?_⟩
    · dsimp only
      rw [sr_ne hc, sr_ne hb, sr_ne ha]; exact h2 a ha hb hc
    · dsimp only
      rw [sr_eq, sr_ne (by decide), sr_ne (by decide), sr_eq, sr_ne (by decide), sr_eq, sr_ne (by decide), sr_ne (by decide), sr_ne (by decide)]
      by_cases y : j = i
      · subst y
        rw [up_eq, up_eq, up_eq]
        exact ⟨rfl, rfl, by decide⟩
      · rw [up_ne y, up_ne y, up_ne y]; exact h3 j (by omega)) dp_F 0 (s, 0) (Nat.zero_le _) (dp_F_lt (by decide) 0) ⟨rfl, rfl, fun _ _ _ _ => rfl, fun j hj => absurd hj (Nat.not_lt_zero j)⟩
  exact ⟨r, e1, he⟩
theorem begins_48 (s : dp_Z) : ∃ s', dp_loop jb_X6_begins_48 dp_F (s, 0) = some s' ∧ s'.1 = s.1 ∧ (∀ a, a ≠ 6 → s'.2 a = s.2 a) ∧ ∀ i, i < 48 → s'.2 6 i = 0 := by
  obtain ⟨r, e1, he⟩ := dp_run (b := jb_X6_begins_48) (fun i x => x.2 = nI i ∧ x.1.1 = s.1 ∧ (∀ a, a ≠ 6 → x.1.2 a = s.2 a) ∧ ∀ j, j < i → x.1.2 6 j = 0) (fun r => r.1 = s.1 ∧ (∀ a, a ≠ 6 → r.2 a = s.2 a) ∧ ∀ i, i < 48 → r.2 6 i = 0) 48 (by
    rintro i ⟨x, c⟩ hi ⟨rfl, h1, h2, h3⟩
    unfold jb_X6_begins_48
    dsimp only at h1 h2 h3 ⊢
    by_cases z : i = 48
    · subst z
      exact Or.inr ⟨x, if_pos (nI_le (Nat.le_refl _) (by decide)), h1, h2, h3⟩
    rw [if_neg (show ¬ Int32.ofNat 48 ≤ nI i from nI_ge (b := 48) (by omega) (by decide)), if_pos (dp_inb_nI (by omega) (by decide)), dp_bd_some, nI_clamp (by omega), nI_1]
    refine Or.inl ⟨_, rfl, by omega, rfl, h1, fun a ha => (sr_ne ha).trans (h2 a ha), fun j hj => ?_⟩
    dsimp only
    rw [sr_eq]
    by_cases y : j = i
    · subst y; exact up_eq
    · rw [up_ne y]; exact h3 j (by omega)) dp_F 0 (s, 0) (Nat.zero_le _) (dp_F_lt (by decide) 0) ⟨rfl, rfl, fun _ _ => rfl, fun j hj => absurd hj (Nat.not_lt_zero j)⟩
  exact ⟨r, e1, he⟩
theorem sim_restart {σ μ : dp_Z} {n w h d v k : Nat} {L : Nat → Nat} (hV : VN σ μ n w h d v k L) : ∃ σ' μ', j_X3_restart σ = some σ' ∧ j_X6_begins μ = some μ' ∧ VN σ' μ' n w h d v k L ∧ RS σ' μ' n ∧ RT σ' μ' ∧ KX σ σ' ∧ KM μ μ' := by
  have hV0 := hV
  obtain ⟨⟨n1, n2, w1, h1, wh, dn, v4, k1, k6⟩, ⟨x0, x1, x2, x3, x4, x5⟩, ⟨y0, y1, y2, y3, y4, y5⟩, hL, hl⟩ := hV
  obtain ⟨σ1, μ1, e1, e2, ⟨r, S, hS⟩, a1, a2, a3, a4⟩ := sim_slots hV0
  unfold j_X3_restart j_X6_begins
  rw [e1, e2, dp_bd_some, dp_bd_some, dp_bd_some, dp_bd_some, dp_bd_some]
  obtain ⟨s3, f1, f2, f3, f4⟩ := fill_q6 (dp_sf (dp_sf σ1 7 0) 8 0) (-9)
  obtain ⟨s4, g1, g2, g3, g4⟩ := fill_q7 s3 (-9)
  obtain ⟨s5, p1, p2, p3, p4⟩ := fill_q8 s4 0
  obtain ⟨m3, b1, b2, b3, b4⟩ := begins_11 (dp_sf μ1 7 0)
  obtain ⟨m4, c1, c2, c3, c4⟩ := begins_48 m3
  have xF : ∀ k, k ≠ 7 → k ≠ 8 → s5.1 k = σ1.1 k := fun k h7 h8 => by rw [p2, g2, f2, sf_ne h8, sf_ne h7]
  have yF : ∀ k, k ≠ 7 → m4.1 k = μ1.1 k := fun k h7 => by rw [c2, b2, sf_ne h7]
  have xd : s5.1 3 = nI d := by rw [xF 3 (by decide) (by decide), a1 3 (by decide), x3]
  have yd : m4.1 3 = nI d := by rw [yF 3 (by decide), a3 3 (by decide), y3]
  have xv : s5.1 4 = nI v := by rw [xF 4 (by decide) (by decide), a1 4 (by decide), x4]
  have yv : m4.1 4 = nI v := by rw [yF 4 (by decide), a3 4 (by decide), y4]
  have hin : dp_inb (nI d) 12 = true := dp_inb_nI (by omega) (by decide)
  have hcl : (nI d).toNatClampNeg = d := nI_clamp (by omega)
  simp only [f1, g1, p1, b1, c1, dp_bd_some, sr_1, xd, yd, xv, yv, if_pos hin, hcl]
  rw [sr_ne (by decide), sr_ne (by decide)]
  have hKX : KX σ (dp_sr (dp_sr s5 3 (upd (s5.2 3) d (nI v))) 4 (upd (s5.2 4) d 0)) := by
    refine ⟨fun k h6 h7 h8 => ?_, fun a h2 h3 h4 h5 => ?_⟩
    · rw [sr_1, sr_1, xF k h7 h8, a1 k h6]
    · rw [sr_ne h4, sr_ne h3, p3 a h5, g3 a h4, f3 a h3, sf_2, sf_2, a2 a h2]
  have hKM : KM μ (dp_sr (dp_sr m4 3 (upd (m4.2 3) d (nI v))) 4 (upd (m4.2 4) d 0)) := by
    refine ⟨fun k h6 h7 => ?_, fun a h2 h3 h4 h5 h6 => ?_⟩
    · rw [sr_1, sr_1, yF k h7, a3 k h6]
    · rw [sr_ne h4, sr_ne h3, c3 a h6, b3 a h3 h4 h5, sf_2, a4 a h2]
  refine ⟨_, _, rfl, rfl, hV0.keep hKX hKM, ⟨r, S, hS.1, ?_, ?_, fun i hi => ⟨(hS.2.2.2 i hi).1, ?_, ?_⟩⟩, ⟨0, fun _ => 0, ?_, fun i hi => ?_, ⟨by decide, ?_, fun i hi => ?_⟩, fun j hj => ⟨show (0 : Nat) < 4096 by decide, ?_, ?_, fun b hb => ?_⟩⟩, hKX, hKM⟩
  · rw [sr_1, sr_1, xF 6 (by decide) (by decide)]; exact hS.2.1
  · rw [sr_1, sr_1, yF 6 (by decide)]; exact hS.2.2.1
  · rw [sr_ne (by decide), sr_ne (by decide), p3 2 (by decide), g3 2 (by decide), f3 2 (by decide)]; exact (hS.2.2.2 i hi).2.1
  · rw [sr_ne (by decide), sr_ne (by decide), c3 2 (by decide), b3 2 (by decide) (by decide) (by decide)]; exact (hS.2.2.2 i hi).2.2
  · rw [sr_1, sr_1, sr_1, sr_1, p2, g2, f2, c2, b2, sf_eq, sf_ne (by decide), sf_eq]
  · have q3 : s5.2 3 i = -9 := by rw [p3 3 (by decide), g3 3 (by decide)]; exact f4 i hi
    have q4 : s5.2 4 i = -9 := by rw [p3 4 (by decide)]; exact g4 i hi
    have t3 : m4.2 3 i = -9 := by rw [c3 3 (by decide)]; exact (b4 i hi).1
    have t4 : m4.2 4 i = -9 := by rw [c3 4 (by decide)]; exact (b4 i hi).2.1
    rw [sr_ne (a := 4) (b := 3) (by decide), sr_ne (a := 4) (b := 3) (by decide), sr_eq, sr_eq, sr_eq, sr_eq]
    by_cases z : i = d
    · subst z
      rw [up_eq, up_eq, up_eq, up_eq]
      exact ⟨rfl, Or.inr ⟨v, v4, rfl⟩, rfl⟩
    · rw [up_ne z, up_ne z, up_ne z, up_ne z, q3, q4, t3, t4]
      exact ⟨rfl, Or.inl rfl, rfl⟩
  · rw [sr_1, sr_1, p2, g2, f2, sf_eq]; rfl
  · rw [sr_ne (by decide), sr_ne (by decide), c3 5 (by decide), (b4 i hi).2.2]
    simp
  · rw [sr_ne (by decide), sr_ne (by decide), c4 j hj]; rfl
  · rw [sr_ne (by decide), sr_ne (by decide), p4 j hj]
    show (0 : Int32) = nI (pcn 0)
    decide
  · simp at hb
