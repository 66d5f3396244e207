/-! ===== 43: the way in hand ===== -/
theorem pig {w : Nat → Nat} : ∀ t, (∀ i, i < t → w i < 12) → (∀ i j, i < j → j < t → w i ≠ w j) → ∃ S, S < 4096 ∧ pcn S = t ∧ ∀ b, S.testBit b = true ↔ ∃ i, i < t ∧ w i = b
  | 0, _, _ => ⟨0, by decide, by decide, fun b => by simp⟩
  | t + 1, h1, h2 => by
    obtain ⟨S, s1, s2, s3⟩ := pig t (fun i hi => h1 i (by omega)) (fun i j hi hj => h2 i j hi (by omega))
    have hw := h1 t (by omega)
    have hz : S.testBit (w t) = false := by
      cases z : S.testBit (w t) with
      | false => rfl
      | true =>
        obtain ⟨i, hi, e⟩ := (s3 _).mp z
        exact absurd e (h2 i t hi (by omega))
    refine ⟨S ||| 2 ^ w t, or12 s1 (pw12 hw), by rw [pcn_set hw hz, s2], fun b => ?_⟩
    rw [fb_bit_set, Bool.or_eq_true, decide_eq_true_eq, s3 b]
    constructor
    · rintro (⟨i, hi, e⟩ | e)
      · exact ⟨i, by omega, e⟩
      · exact ⟨t, by omega, e.symm⟩
    · rintro ⟨i, hi, e⟩
      by_cases y : i = t
      · subst y; exact Or.inr e.symm
      · exact Or.inl ⟨i, by omega, e⟩
section WK
variable {σ σ' μ μ' : dp_Z} {n w h d v k sp : Nat} {L hd : Nat → Nat} {t hs c : Nat} {ww : Nat → Nat}
theorem RR.wl (hR : RR σ μ) (h1 : ∀ k, k ≠ 14 → k ≠ 15 → k ≠ 16 → σ'.1 k = σ.1 k) (h2 : ∀ a, a ≠ 7 → a ≠ 8 → a ≠ 9 → a ≠ 10 → a ≠ 11 → a ≠ 12 → σ'.2 a = σ.2 a) (h3 : ∀ k, k ≠ 12 → k ≠ 13 → μ'.1 k = μ.1 k) (h4 : ∀ a, a ≠ 8 → a ≠ 9 → a ≠ 10 → a ≠ 11 → μ'.2 a = μ.2 a) (h5 : ∀ d, σ.1 3 = nI d → d < 12 → RW σ' μ' d ∧ RL σ' μ' d) : RR σ' μ' := by
  obtain ⟨n, w, h, d, v, k, L, hV, hS, hT, hC, -, -⟩ := hR
  obtain ⟨hW, hL⟩ := h5 d hV.2.1.2.2.2.1 (by have := hV.1.2.1; have := hV.1.2.2.2.2.2.1; omega)
  refine ⟨n, w, h, d, v, k, L, ?_, ?_, ?_, ?_, hW, hL⟩
  · unfold VN at hV ⊢
    rw [h1 0 (by decide) (by decide) (by decide), h1 1 (by decide) (by decide) (by decide), h1 2 (by decide) (by decide) (by decide), h1 3 (by decide) (by decide) (by decide), h1 4 (by decide) (by decide) (by decide), h1 5 (by decide) (by decide) (by decide), h3 0 (by decide) (by decide), h3 1 (by decide) (by decide), h3 2 (by decide) (by decide), h3 3 (by decide) (by decide), h3 4 (by decide) (by decide), h3 5 (by decide) (by decide), h2 0 (by decide) (by decide) (by decide) (by decide) (by decide) (by decide), h2 1 (by decide) (by decide) (by decide) (by decide) (by decide) (by decide), h4 0 (by decide) (by decide) (by decide) (by decide), h4 1 (by decide) (by decide) (by decide) (by decide)]
    exact hV
  · unfold RS VS at hS ⊢
    rw [h1 6 (by decide) (by decide) (by decide), h3 6 (by decide) (by decide), h2 2 (by decide) (by decide) (by decide) (by decide) (by decide) (by decide), h4 2 (by decide) (by decide) (by decide) (by decide)]
    exact hS
  · unfold RT VT at hT ⊢
    rw [h1 7 (by decide) (by decide) (by decide), h1 8 (by decide) (by decide) (by decide), h3 7 (by decide) (by decide), h2 3 (by decide) (by decide) (by decide) (by decide) (by decide) (by decide), h2 4 (by decide) (by decide) (by decide) (by decide) (by decide) (by decide), h2 5 (by decide) (by decide) (by decide) (by decide) (by decide) (by decide), h4 3 (by decide) (by decide) (by decide) (by decide), h4 4 (by decide) (by decide) (by decide) (by decide), h4 5 (by decide) (by decide) (by decide) (by decide), h4 6 (by decide) (by decide) (by decide) (by decide)]
    exact hT
  · exact hC.cg (h1 13 (by decide) (by decide) (by decide)) (h3 11 (by decide) (by decide)) (h2 6 (by decide) (by decide) (by decide) (by decide) (by decide) (by decide)) (h4 7 (by decide) (by decide) (by decide) (by decide))
theorem onway (hW : VW σ μ d t hs ww) {i : Nat} (hi : i < 12) : j_X6_isOnWay μ (nI i) = some (if hs.testBit i = true then 1 else 0) := by
  obtain ⟨⟨t1, t2, t3, t4, t5⟩, w2, w3, w4, w5⟩ := hW
  unfold j_X6_isOnWay
  obtain ⟨r, e1, he⟩ := dp_run (b := jb_X6_isOnWay_2 μ (nI i)) (fun j x => x = nI j ∧ ∀ q, q < j → ww q ≠ i) (fun r => (r = .inl 1 ∧ hs.testBit i = true) ∨ (r = .inr () ∧ ¬ hs.testBit i = true)) t (by
    rintro j x hj ⟨rfl, hq⟩
    unfold jb_X6_isOnWay_2
    rw [t4]
    by_cases ce : j = t
    · subst ce
      refine Or.inr ⟨_, if_pos (nI_le (Nat.le_refl _) (by omega)), Or.inr ⟨rfl, fun z => ?_⟩⟩
      obtain ⟨q, y1, y2⟩ := (w4 i).mp z
      exact hq q y1 y2
    have hj2 : j < t := by omega
    have h2 := w2 j hj2
    rw [if_neg (nI_ge hj2 (by omega)), if_pos (dp_inb_nI (by omega) (by decide)), nI_clamp (by omega), h2.2.2, nI_1]
    by_cases y : ww j = i
    · rw [if_pos (by rw [y])]
      exact Or.inr ⟨_, rfl, Or.inl ⟨rfl, (w4 i).mpr ⟨j, hj2, y⟩⟩⟩
    · rw [if_neg (fun z => y (nI_inj (by omega) (by omega) z))]
      refine Or.inl ⟨_, rfl, hj2, rfl, fun q hq2 => ?_⟩
      by_cases e : q = j
      · subst e; exact y
      · exact hq q (by omega)) dp_F 0 0 (Nat.zero_le _) (dp_F_lt (by omega) 0) ⟨rfl, fun q hq => absurd hq (Nat.not_lt_zero q)⟩
  rw [e1, dp_bd_some]
  rcases he with ⟨rfl, z⟩ | ⟨rfl, z⟩
  · rw [if_pos z]; rfl
  · rw [if_neg z]; rfl
theorem sim_drop (hR : RR σ μ) : ∃ r σ' μ', j_X5_drop σ = some (r, σ') ∧ j_X6_drop μ = some (r, μ') ∧ RR σ' μ' := by
  have hR0 := hR
  obtain ⟨n, w, h, d, v, k, L, hV, -, -, -, ⟨t, hs, ww, ⟨-, -, w1, w2, -⟩, -⟩, hL⟩ := hR
  unfold j_X5_drop j_X6_drop j_X0_letGo
  rw [dp_bd_some, dp_bd_some, dp_bd_some, dp_bd_some, w1, w2]
  refine ⟨_, _, _, rfl, rfl, hR0.wl (fun k h1 h2 _ => by rw [sf_ne h1, sf_ne h2]) (fun _ _ _ _ _ _ _ => rfl) (fun k h1 _ => by rw [sf_ne h1]) (fun _ _ _ _ _ => rfl) (fun d' hd' hd2 => ⟨RW.nil (by rw [sf_ne (by decide), sf_eq]) sf_eq sf_eq, ?_⟩)⟩
  have : d' = d := nI_inj (by omega) (by have := hV.1.2.1; have := hV.1.2.2.2.2.2.1; omega) (hd'.symm.trans hV.2.1.2.2.2.1)
  subst this
  exact hL.cg (by rw [sf_ne (by decide), sf_ne (by decide)]) (by rw [sf_ne (by decide)]) rfl rfl rfl rfl rfl rfl rfl
theorem sim_walk (hR : RR σ μ) (a : Int32) : ∃ r σ' μ', j_X5_walk σ a = some (r, σ') ∧ j_X6_walk μ a = some (r, μ') ∧ RR σ' μ' := by
  have hR0 := hR
  obtain ⟨n, w, h, d, v, k, L, hV, -, -, -, ⟨t, hs, ww, hW⟩, hL⟩ := hR
  have hn := hV.1.2.1
  have hd := hV.1.2.2.2.2.2.1
  unfold j_X5_walk j_X6_walk
  rcases in_node hV a with ⟨i, hi, rfl, e1, e2⟩ | ⟨e1, e2⟩
  rotate_left
  · simp only [e1, e2, dp_bd_some, i00]
    exact ⟨-1, σ, μ, rfl, rfl, hR0⟩
  have hi12 : i < 12 := by omega
  obtain ⟨⟨t1, t2, t3, t4, t5⟩, w2, w3, w4, w5⟩ := id hW
  rw [e1, e2, dp_bd_some, dp_bd_some, i10, i10]
  have no : jj_X6_walk_69 μ (nI i) 0 = some (-3, μ) := by unfold jj_X6_walk_69; rw [i00]
  unfold j_X0_canStep jj_X6_walk_68
  rw [no, t3, t4, t5, hV.2.1.2.2.2.1, hV.2.2.1.2.2.2.1]
  have yes : t < 12 → hs.testBit i = false → (t = 0 → i = d) → ∃ r σ' μ', (dp_bd (j_X0_step σ (nI i)) fun x3 => some (x3.1, x3.2)) = some (r, σ') ∧ jj_X6_walk_69 μ (nI i) 1 = some (r, μ') ∧ RR σ' μ' := by
    intro ht hz h0
    unfold j_X0_step jj_X6_walk_69
    rw [t3, t4, i10, if_pos (dp_inb_nI ht (by decide)), if_pos (dp_inb_nI ht (by decide)), nI_clamp (by omega)]
    simp only [dp_bd_some]
    rw [sr_1, sf_ne (show (15 : Nat) ≠ 14 by decide), sr_1, sr_1, t3, t4, t5, sf_eq, sf_eq, mb_one i (by omega), fa_or, nI_1]
    refine ⟨_, _, _, rfl, rfl, hR0.wl (fun k h1 h2 _ => by rw [sf_ne h2, sf_ne h1]; rfl) (fun a h7 _ _ _ _ _ => by rw [sf_2, sf_2, sr_ne h7]) (fun k h1 _ => by rw [sf_ne h1]; rfl) (fun a h8 _ _ _ => by rw [sf_2, sr_ne h8]) (fun d' hd' hd2 => ?_)⟩
    have : d' = d := nI_inj (by omega) (by omega) (hd'.symm.trans hV.2.1.2.2.2.1)
    subst this
    refine ⟨⟨t + 1, hs ||| 2 ^ i, fun j => if j = t then i else ww j, ⟨by omega, or12 t2 (pw12 hi12), sf_eq, sf_eq, by rw [sf_ne (by decide), sf_eq]⟩, fun j hj => ?_, fun j q h1 h2 => ?_, fun b => ?_, fun _ => ?_⟩, hL.cg (by rw [sf_ne (by decide), sf_ne (by decide)]; rfl) (by rw [sf_ne (by decide)]; rfl) (by rw [sf_2, sf_2, sr_ne (by decide)]) (by rw [sf_2, sf_2, sr_ne (by decide)]) (by rw [sf_2, sf_2, sr_ne (by decide)]) (by rw [sf_2, sf_2, sr_ne (by decide)]) (by rw [sf_2, sr_ne (by decide)]) (by rw [sf_2, sr_ne (by decide)]) (by rw [sf_2, sr_ne (by decide)])⟩
    · rw [sf_2, sf_2, sf_2, sr_eq, sr_eq]
      dsimp only
      by_cases e : j = t
      · subst e; rw [if_pos rfl, up_eq, up_eq]; exact ⟨hi12, rfl, rfl⟩
      · rw [if_neg e, up_ne e, up_ne e]; exact w2 j (by omega)
    · dsimp only
      rw [if_neg (show ¬ j = t by omega)]
      by_cases e : q = t
      · rw [if_pos e]
        intro y
        have : hs.testBit i = true := (w4 i).mpr ⟨j, by omega, y⟩
        rw [hz] at this
        cases this
      · rw [if_neg e]; exact w3 j q h1 (by omega)
    · rw [fb_bit_set, Bool.or_eq_true, decide_eq_true_eq, w4 b]
      dsimp only
      constructor
      · rintro (⟨j, y1, y2⟩ | y)
        · exact ⟨j, by omega, by rw [if_neg (by omega)]; exact y2⟩
        · exact ⟨t, by omega, by rw [if_pos rfl]; exact y.symm⟩
      · rintro ⟨j, y1, y2⟩
        by_cases e : j = t
        · rw [if_pos e] at y2; exact Or.inr y2.symm
        · rw [if_neg e] at y2; exact Or.inl ⟨j, by omega, y2⟩
    · dsimp only
      by_cases e : 0 = t
      · rw [if_pos e]; exact h0 e.symm
      · rw [if_neg e]; exact w5 (by omega)
  by_cases c0 : t = 0
  · subst c0
    rw [if_pos (show nI 0 = (0 : Int32) from rfl), if_pos (show nI 0 = (0 : Int32) from rfl)]
    by_cases cd : i = d
    · rw [if_pos (by rw [cd]), if_pos (by rw [cd]), dp_bd_some, i10]
      refine yes (by decide) ?_ (fun _ => cd)
      cases z : hs.testBit i with
      | false => rfl
      | true =>
        obtain ⟨j, y, -⟩ := (w4 i).mp z
        omega
    · rw [if_neg (fun z => cd (nI_inj (by omega) (by omega) z)), if_neg (fun z => cd (nI_inj (by omega) (by omega) z)), dp_bd_some, i00]
      exact ⟨-3, σ, μ, rfl, rfl, hR0⟩
  have hl := w2 (t - 1) (by omega)
  rw [if_neg (nz (by omega) c0), if_neg (nz (by omega) c0), show nI t - 1 = nI (t - 1) from pk_sub (b := 1) (by omega), if_pos (dp_inb_nI (show t - 1 < 12 by omega) (by decide)), if_pos (dp_inb_nI (show t - 1 < 12 by omega) (by decide)), nI_clamp (show t - 1 < 2 ^ 31 by omega), hl.2.1, hl.2.2, if_pos (dp_inb_nI hl.1 (by decide)), nI_clamp (show ww (t - 1) < 2 ^ 31 by omega), (hV.2.2.2.1 _ hl.1).2.2, mb_has (s31 (hV.2.2.2.1 _ hl.1).1) (by omega), dp_bd_some, onway hW hi12, dp_bd_some, sl_linked hV.nv.1.2.2 hl.1 (by omega), dp_bd_some, mb_isIn (s31 t2) (by omega), dp_bd_some]
  by_cases c12 : t = 12
  · subst c12
    obtain ⟨S, s1, s2, s3⟩ := pig 12 (fun j hj => (w2 j hj).1) w3
    have hz : hs.testBit i = true := (w4 i).mpr ((s3 i).mp (fb_ct_all.mp s2 i hi12))
    rw [if_pos (show (12 : Int32) ≤ nI 12 by decide), dp_bd_some, i00, if_pos hz, i10]
    refine ⟨-3, σ, μ, rfl, ?_, hR0⟩
    split <;> rfl
  rw [if_neg (show ¬ (12 : Int32) ≤ nI t from nI_ge (b := 12) (by omega) (by decide))]
  by_cases cl : (L (ww (t - 1))).testBit i = true
  rotate_left
  · simp only [if_neg cl, i00, dp_bd_some]
    exact ⟨-3, σ, μ, rfl, rfl, hR0⟩
  simp only [if_pos cl, i10]
  by_cases ch : hs.testBit i = true
  · simp only [if_pos ch, i10, dp_bd_some, i00]
    exact ⟨-3, σ, μ, rfl, rfl, hR0⟩
  · rw [if_neg ch]
    simp only [i00, i10, dp_bd_some]
    exact yes (by omega) (by simpa using ch) (fun z => absurd z c0)
end WK
