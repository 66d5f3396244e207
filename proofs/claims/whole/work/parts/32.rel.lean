/-! ===== 32: how class and reference go in step ===== -/
theorem ne9 {a : Nat} (h : a < 2 ^ 31) : ¬ nI a = (-9 : Int32) := by
  intro e
  have h1 := congrArg Int32.toInt e
  rw [nI_toInt h] at h1
  have h2 : (-9 : Int32).toInt = -9 := by decide
  omega
theorem nz {a : Nat} (h : a < 2 ^ 31) (e : ¬ a = 0) : ¬ nI a = (0 : Int32) := nI_ne0 (by omega) h
theorem pw12 {k : Nat} (h : k < 12) : 2 ^ k < 4096 := Nat.pow_lt_pow_right (a := 2) (by decide) h
theorem or12 {a b : Nat} (ha : a < 4096) (hb : b < 4096) : a ||| b < 4096 := Nat.or_lt_two_pow (n := 12) ha hb
theorem and12 {a b : Nat} (ha : a < 4096) : a &&& b < 4096 := Nat.lt_of_le_of_lt Nat.and_le_left ha
theorem xor12 {a b : Nat} (ha : a < 4096) (hb : b < 4096) : a ^^^ b < 4096 := Nat.xor_lt_two_pow (n := 12) ha hb
theorem big12 {a b : Nat} (ha : a < 4096) (hb : 12 ≤ b) : a.testBit b = false := Nat.testBit_lt_two_pow (Nat.lt_of_lt_of_le ha (Nat.pow_le_pow_right (n := 2) (by decide) hb))
theorem s31 {a : Nat} (h : a < 4096) : a < 2 ^ 31 := by omega
def VN (σ μ : dp_Z) (n w h d v k : Nat) (L : Nat → Nat) : Prop :=
  (2 ≤ n ∧ n ≤ 12 ∧ 1 ≤ w ∧ 1 ≤ h ∧ w * h = n ∧ d < n ∧ v < 4 ∧ 1 ≤ k ∧ k ≤ 6) ∧
  (σ.1 0 = nI n ∧ σ.1 1 = nI w ∧ σ.1 2 = nI h ∧ σ.1 3 = nI d ∧ σ.1 4 = nI v ∧ σ.1 5 = nI k) ∧
  (μ.1 0 = nI n ∧ μ.1 1 = nI w ∧ μ.1 2 = nI h ∧ μ.1 3 = nI d ∧ μ.1 4 = nI v ∧ μ.1 5 = nI k) ∧
  (∀ i, i < 12 → L i < 4096 ∧ σ.2 0 i = nI (L i) ∧ μ.2 0 i = nI (L i)) ∧
  (∀ i, i < 12 → μ.2 1 i = σ.2 1 i ∧ (σ.2 1 i = -9 ∨ ∃ a, a ≤ 4 ∧ σ.2 1 i = nI a))
def VS (σ μ : dp_Z) (n r : Nat) (S : Nat → Nat) : Prop := (1 ≤ r ∧ r ≤ 12) ∧ σ.1 6 = nI r ∧ μ.1 6 = nI r ∧ ∀ i, i < n → S i < 12 ∧ σ.2 2 i = nI (S i) ∧ μ.2 2 i = nI (S i)
def VT (σ μ : dp_Z) (sp : Nat) (hd : Nat → Nat) : Prop :=
  μ.1 7 = σ.1 7 ∧ (∀ i, i < 12 → μ.2 3 i = σ.2 3 i ∧ (σ.2 3 i = -9 ∨ ∃ a, a < 4 ∧ σ.2 3 i = nI a) ∧ μ.2 4 i = σ.2 4 i) ∧
  (sp < 4096 ∧ σ.1 8 = nI sp ∧ ∀ i, i < 12 → μ.2 5 i = if sp.testBit i = true then 1 else 0) ∧
  (∀ j, j < 48 → hd j < 4096 ∧ μ.2 6 j = nI (hd j) ∧ σ.2 5 j = nI (pcn (hd j)) ∧ ∀ b, (hd j).testBit b = true → sp.testBit b = true)
def VC (σ μ : dp_Z) (c : Nat) : Prop := c ≤ 6 ∧ σ.1 13 = nI c ∧ μ.1 11 = nI c ∧ ∀ i, i < c → μ.2 7 i = σ.2 6 i
def VW (σ μ : dp_Z) (d t hs : Nat) (w : Nat → Nat) : Prop :=
  (t ≤ 12 ∧ hs < 4096 ∧ σ.1 15 = nI t ∧ μ.1 12 = nI t ∧ σ.1 14 = nI hs) ∧ (∀ i, i < t → w i < 12 ∧ σ.2 7 i = nI (w i) ∧ μ.2 8 i = nI (w i)) ∧
  (∀ i j, i < j → j < t → w i ≠ w j) ∧ (∀ b, hs.testBit b = true ↔ ∃ i, i < t ∧ w i = b) ∧ (0 < t → w 0 = d)
def VL (σ μ : dp_Z) (d c : Nat) (len val st : Nat → Nat) (w : Nat → Nat) : Prop :=
  (c ≤ 8 ∧ σ.1 16 = nI c ∧ μ.1 13 = nI c) ∧ ∀ k, k < c → (2 ≤ len k ∧ len k ≤ 12 ∧ σ.2 9 k = nI (len k) ∧ μ.2 10 k = nI (len k)) ∧ (val k < 4 ∧ σ.2 11 k = nI (val k) ∧ μ.2 9 k = nI (val k)) ∧
    (∀ i, i < len k → w (12 * k + i) < 12 ∧ σ.2 8 (12 * k + i) = nI (w (12 * k + i)) ∧ μ.2 11 (12 * k + i) = nI (w (12 * k + i))) ∧ w (12 * k) = d ∧
    (st k < 4096 ∧ σ.2 10 k = nI (st k) ∧ ∀ b, (st k).testBit b = true ↔ ∃ i, i < len k ∧ w (12 * k + i) = b)
def RS (σ μ : dp_Z) (n : Nat) : Prop := ∃ r S, VS σ μ n r S
def RT (σ μ : dp_Z) : Prop := ∃ sp hd, VT σ μ sp hd
def RC (σ μ : dp_Z) : Prop := ∃ c, VC σ μ c
def RW (σ μ : dp_Z) (d : Nat) : Prop := ∃ t hs w, VW σ μ d t hs w
def RL (σ μ : dp_Z) (d : Nat) : Prop := ∃ c len val st w, VL σ μ d c len val st w
def RR (σ μ : dp_Z) : Prop := ∃ n w h d v k L, VN σ μ n w h d v k L ∧ RS σ μ n ∧ RT σ μ ∧ RC σ μ ∧ RW σ μ d ∧ RL σ μ d
/-- what a restart leaves as it is -/
def KX (σ σ' : dp_Z) : Prop := (∀ k, k ≠ 6 → k ≠ 7 → k ≠ 8 → σ'.1 k = σ.1 k) ∧ ∀ a, a ≠ 2 → a ≠ 3 → a ≠ 4 → a ≠ 5 → σ'.2 a = σ.2 a
def KM (μ μ' : dp_Z) : Prop := (∀ k, k ≠ 6 → k ≠ 7 → μ'.1 k = μ.1 k) ∧ ∀ a, a ≠ 2 → a ≠ 3 → a ≠ 4 → a ≠ 5 → a ≠ 6 → μ'.2 a = μ.2 a
theorem KX.rf {σ : dp_Z} : KX σ σ := ⟨fun _ _ _ _ => rfl, fun _ _ _ _ _ => rfl⟩
theorem KM.rf {σ : dp_Z} : KM σ σ := ⟨fun _ _ _ => rfl, fun _ _ _ _ _ _ => rfl⟩
section VK
variable {σ σ' μ μ' : dp_Z} {n w h d v k : Nat} {L : Nat → Nat}
theorem VN.keep (hV : VN σ μ n w h d v k L) (hX : KX σ σ') (hM : KM μ μ') : VN σ' μ' n w h d v k L := by
  unfold VN at hV ⊢
  rw [hX.1 0 (by decide) (by decide) (by decide), hX.1 1 (by decide) (by decide) (by decide), hX.1 2 (by decide) (by decide) (by decide), hX.1 3 (by decide) (by decide) (by decide), hX.1 4 (by decide) (by decide) (by decide), hX.1 5 (by decide) (by decide) (by decide), hM.1 0 (by decide) (by decide), hM.1 1 (by decide) (by decide), hM.1 2 (by decide) (by decide), hM.1 3 (by decide) (by decide), hM.1 4 (by decide) (by decide), hM.1 5 (by decide) (by decide),
    hX.2 0 (by decide) (by decide) (by decide) (by decide), hX.2 1 (by decide) (by decide) (by decide) (by decide), hM.2 0 (by decide) (by decide) (by decide) (by decide) (by decide), hM.2 1 (by decide) (by decide) (by decide) (by decide) (by decide)]
  exact hV
theorem RC.keep (hV : RC σ μ) (hX : KX σ σ') (hM : KM μ μ') : RC σ' μ' := by
  unfold RC VC at hV ⊢
  rw [hX.1 13 (by decide) (by decide) (by decide), hM.1 11 (by decide) (by decide), hX.2 6 (by decide) (by decide) (by decide) (by decide), hM.2 7 (by decide) (by decide) (by decide) (by decide) (by decide)]
  exact hV
theorem RW.keep (hV : RW σ μ d) (hX : KX σ σ') (hM : KM μ μ') : RW σ' μ' d := by
  unfold RW VW at hV ⊢
  rw [hX.1 15 (by decide) (by decide) (by decide), hX.1 14 (by decide) (by decide) (by decide), hM.1 12 (by decide) (by decide), hX.2 7 (by decide) (by decide) (by decide) (by decide), hM.2 8 (by decide) (by decide) (by decide) (by decide) (by decide)]
  exact hV
theorem RL.keep (hV : RL σ μ d) (hX : KX σ σ') (hM : KM μ μ') : RL σ' μ' d := by
  unfold RL VL at hV ⊢
  rw [hX.1 16 (by decide) (by decide) (by decide), hM.1 13 (by decide) (by decide), hX.2 8 (by decide) (by decide) (by decide) (by decide), hX.2 9 (by decide) (by decide) (by decide) (by decide), hX.2 10 (by decide) (by decide) (by decide) (by decide), hX.2 11 (by decide) (by decide) (by decide) (by decide), hM.2 9 (by decide) (by decide) (by decide) (by decide) (by decide), hM.2 10 (by decide) (by decide) (by decide) (by decide) (by decide), hM.2 11 (by decide) (by decide) (by decide) (by decide) (by decide)]
  exact hV
end VK
/-! the slots -/
def nearB (L : Nat → Nat) (j i : Nat) : Prop := (L j).testBit i = true ∨ ¬ L j &&& L i = 0
section SL
variable {s : dp_Z} {L S : Nat → Nat} {i : Nat}
theorem sl_linked (hL : ∀ i, i < 12 → L i < 4096 ∧ s.2 0 i = nI (L i)) {a b : Nat} (ha : a < 12) (hb : b < 31) : j_X2_areLinked s (nI a) (nI b) = some (if (L a).testBit b = true then 1 else 0) := by
  unfold j_X2_areLinked
  rw [if_pos (dp_inb_nI ha (by decide)), nI_clamp (by omega), (hL a ha).2, mb_isIn (s31 (hL a ha).1) hb, dp_bd_some]
  by_cases c : (L a).testBit b = true
  · rw [if_pos c]; rfl
  · rw [if_neg c]; rfl
theorem sl_apart (hL : ∀ i, i < 12 → L i < 4096 ∧ s.2 0 i = nI (L i)) {a b : Nat} (ha : a < 12) (hb : b < 12) : ∃ r, j_X6_isApart s (nI a) (nI b) = some r ∧ (r = 0 ↔ nearB L a b) := by
  unfold j_X6_isApart
  rw [if_pos (dp_inb_nI ha (by decide)), if_pos (dp_inb_nI ha (by decide)), if_pos (dp_inb_nI hb (by decide)), nI_clamp (by omega), nI_clamp (by omega), (hL a ha).2, (hL b hb).2, mb_has (s31 (hL a ha).1) (by omega), dp_bd_some, fa_and]
  unfold nearB
  by_cases c : (L a).testBit b = true
  · rw [if_pos c]
    exact ⟨0, rfl, fun _ => Or.inl c, fun _ => rfl⟩
  · rw [if_neg c, if_pos rfl]
    by_cases e : L a &&& L b = 0
    · rw [if_pos (by rw [e]; rfl)]
      exact ⟨1, rfl, fun h => absurd h (by decide), fun h => (h.elim (fun z => absurd z c) (fun z => absurd e z))⟩
    · rw [if_neg (nz (s31 (and12 (hL a ha).1)) e)]
      exact ⟨0, rfl, fun _ => Or.inr e, fun _ => rfl⟩
theorem sl_near (hL : ∀ i, i < 12 → L i < 4096 ∧ s.2 0 i = nI (L i)) (hi : i < 12) (hS : ∀ j, j < i → S j < 12 ∧ s.2 2 j = nI (S j)) : ∃ U, U < 4096 ∧ j_X3_slotsNear s (nI i) = some (nI U) ∧ ∀ b, U.testBit b = true ↔ ∃ j, j < i ∧ S j = b ∧ nearB L j i := by
  unfold j_X3_slotsNear
  obtain ⟨r, e1, U, hU, rfl, hb⟩ := dp_run (b := jb_X3_slotsNear_5 s (nI i)) (fun j x => ∃ U, U < 4096 ∧ x = (nI U, nI j) ∧ ∀ b, U.testBit b = true ↔ ∃ j', j' < j ∧ S j' = b ∧ nearB L j' i) (fun r => ∃ U, U < 4096 ∧ r = nI U ∧ ∀ b, U.testBit b = true ↔ ∃ j', j' < i ∧ S j' = b ∧ nearB L j' i) i (by
    rintro j x hj ⟨U, hU, rfl, hb⟩
    unfold jb_X3_slotsNear_5
    by_cases c : j = i
    · subst c
      exact Or.inr ⟨nI U, if_pos (nI_le (Nat.le_refl _) (by omega)), U, hU, rfl, hb⟩
    have hj2 : j < i := by omega
    rw [if_neg (nI_ge hj2 (by omega)), sl_linked hL (by omega) (by omega), dp_bd_some]
    have hyes : jj_X3_slotsNear_38 s (nI i) (nI U) (nI j) = some (.inl (nI (U ||| 2 ^ S j), nI (j + 1))) := by
      unfold jj_X3_slotsNear_38 jj_X3_slotsNear_50
      rw [if_pos (dp_inb_nI (by omega) (by decide)), nI_clamp (by omega), (hS j hj2).2, mb_one _ (by have := (hS j hj2).1; omega), fa_or, dp_bd_some, nI_1]
    have hno : jj_X3_slotsNear_50 s (nI i) (nI U) (nI j) = some (.inl (nI U, nI (j + 1))) := by
      unfold jj_X3_slotsNear_50
      rw [nI_1]
    have hstep : ∀ b, nearB L j i → ((U ||| 2 ^ S j).testBit b = true ↔ ∃ j', j' < j + 1 ∧ S j' = b ∧ nearB L j' i) := by
      intro b hn
      rw [fb_bit_set, Bool.or_eq_true, decide_eq_true_eq, hb b]
      constructor
      · rintro (⟨j', h1, h2⟩ | h)
        · exact ⟨j', by omega, h2⟩
        · exact ⟨j, by omega, h.symm, hn⟩
      · rintro ⟨j', h1, h2, h3⟩
        by_cases e : j' = j
        · subst e; exact Or.inr h2.symm
        · exact Or.inl ⟨j', by omega, h2, h3⟩
    have hstay : ∀ b, ¬ nearB L j i → (U.testBit b = true ↔ ∃ j', j' < j + 1 ∧ S j' = b ∧ nearB L j' i) := by
      intro b hn
      rw [hb b]
      constructor
      · rintro ⟨j', h1, h2⟩
        exact ⟨j', by omega, h2⟩
      · rintro ⟨j', h1, h2, h3⟩
        by_cases e : j' = j
        · subst e; exact absurd h3 hn
        · exact ⟨j', by omega, h2, h3⟩
    have hor : U ||| 2 ^ S j < 4096 := or12 hU (pw12 (hS j hj2).1)
    by_cases t : (L j).testBit i = true
    · rw [if_pos t, if_neg (by decide), hyes]
      exact Or.inl ⟨_, rfl, hj2, _, hor, rfl, fun b => hstep b (Or.inl t)⟩
    · rw [if_neg t, if_pos rfl, if_pos (dp_inb_nI (by omega) (by decide)), if_pos (dp_inb_nI hi (by decide)), nI_clamp (by omega), nI_clamp (by omega), (hL j (by omega)).2, (hL i hi).2, fa_and]
      by_cases e : L j &&& L i = 0
      · rw [if_pos (by rw [e]; rfl), hno]
        exact Or.inl ⟨_, rfl, hj2, _, hU, rfl, fun b => hstay b (fun z => z.elim t (fun z => z e))⟩
      · rw [if_neg (nz (s31 (and12 (hL j (by omega)).1)) e), hyes]
        exact Or.inl ⟨_, rfl, hj2, _, hor, rfl, fun b => hstep b (Or.inr e)⟩) dp_F 0 (0, 0) (Nat.zero_le _) (dp_F_lt (by omega) 0) ⟨0, by decide, rfl, fun b => by simp⟩
  exact ⟨U, hU, by rw [e1]; rfl, hb⟩
theorem sl_free {U f : Nat} (hU : U < 4096) (hf : f < 12) (h1 : U.testBit f = false) (h2 : ∀ b, b < f → U.testBit b = true) : j_X3_leastFree (nI U) = some (nI f) := by
  unfold j_X3_leastFree
  obtain ⟨r, e1, rfl⟩ := dp_run (b := jb_X3_leastFree_2 (nI U)) (fun b x => x = nI b) (fun r => r = nI f) f (by
    rintro b x hb rfl
    unfold jb_X3_leastFree_2
    rw [if_neg (show ¬ (12 : Int32) ≤ nI b from nI_ge (b := 12) (by omega) (by decide)), mb_isIn (s31 hU) (by omega), dp_bd_some]
    by_cases c : b = f
    · subst c
      rw [h1]
      exact Or.inr ⟨_, rfl, rfl⟩
    · rw [h2 b (by omega), if_pos rfl, if_neg (by decide), nI_1]
      exact Or.inl ⟨_, rfl, by omega, rfl⟩) dp_F 0 0 (Nat.zero_le _) (dp_F_lt (by omega) 0) rfl
  rw [e1]
  rfl
theorem sl_isFree (hL : ∀ i, i < 12 → L i < 4096 ∧ s.2 0 i = nI (L i)) (hi : i < 12) (hS : ∀ j, j < i → S j < 12 ∧ s.2 2 j = nI (S j)) {b : Nat} (hb : b < 12) : ∃ r, j_X6_isFreeSlot s (nI i) (nI b) = some r ∧ (r = 0 ↔ ∃ j, j < i ∧ S j = b ∧ nearB L j i) := by
  unfold j_X6_isFreeSlot
  obtain ⟨r, e1, he⟩ := dp_run (b := jb_X6_isFreeSlot_2 s (nI i) (nI b)) (fun j x => x = nI j ∧ ¬ ∃ j', j' < j ∧ S j' = b ∧ nearB L j' i) (fun r => (r = .inl 0 ∧ ∃ j, j < i ∧ S j = b ∧ nearB L j i) ∨ (r = .inr () ∧ ¬ ∃ j, j < i ∧ S j = b ∧ nearB L j i)) i (by
    rintro j x hj ⟨rfl, hn⟩
    unfold jb_X6_isFreeSlot_2
    by_cases c : j = i
    · subst c
      exact Or.inr ⟨_, if_pos (nI_le (Nat.le_refl _) (by omega)), Or.inr ⟨rfl, hn⟩⟩
    have hj2 : j < i := by omega
    rw [if_neg (nI_ge hj2 (by omega)), if_pos (dp_inb_nI (by omega) (by decide)), nI_clamp (by omega), (hS j hj2).2]
    have hno : jj_X6_isFreeSlot_28 s (nI i) (nI b) (nI j) = some (.inl (nI (j + 1))) := by
      unfold jj_X6_isFreeSlot_28
      rw [nI_1]
    have hgo : ¬ (S j = b ∧ nearB L j i) → ¬ ∃ j', j' < j + 1 ∧ S j' = b ∧ nearB L j' i := by
      rintro hz ⟨j', h1, h2, h3⟩
      by_cases e : j' = j
      · subst e; exact hz ⟨h2, h3⟩
      · exact hn ⟨j', by omega, h2, h3⟩
    by_cases t : S j = b
    · rw [if_pos (by rw [t])]
      obtain ⟨r, g1, g2⟩ := sl_apart hL (a := j) (b := i) (by omega) hi
      rw [g1, dp_bd_some]
      by_cases z : r = 0
      · rw [if_pos z]
        exact Or.inr ⟨_, rfl, Or.inl ⟨rfl, j, hj2, t, g2.mp z⟩⟩
      · rw [if_neg z, hno]
        exact Or.inl ⟨_, rfl, hj2, rfl, hgo (fun y => z (g2.mpr y.2))⟩
    · rw [if_neg (fun z => t (nI_inj (by have := (hS j hj2).1; omega) (by omega) z)), hno]
      exact Or.inl ⟨_, rfl, hj2, rfl, hgo (fun y => t y.1)⟩) dp_F 0 0 (Nat.zero_le _) (dp_F_lt (by omega) 0) ⟨rfl, by simp⟩
  rcases he with ⟨rfl, h⟩ | ⟨rfl, h⟩
  · exact ⟨0, by rw [e1]; rfl, fun _ => h, fun _ => rfl⟩
  · exact ⟨1, by rw [e1]; rfl, fun z => absurd z (by decide), fun z => absurd z h⟩
theorem sl_first (hL : ∀ i, i < 12 → L i < 4096 ∧ s.2 0 i = nI (L i)) (hi : i < 12) (hS : ∀ j, j < i → S j < 12 ∧ s.2 2 j = nI (S j)) {f : Nat} (hf : f < 12) (h1 : ¬ ∃ j, j < i ∧ S j = f ∧ nearB L j i) (h2 : ∀ b, b < f → ∃ j, j < i ∧ S j = b ∧ nearB L j i) : dp_loop (jb_X6_dealsSlots_17 s (nI i)) dp_F 0 = some (nI f) := by
  obtain ⟨r, e1, rfl⟩ := dp_run (b := jb_X6_dealsSlots_17 s (nI i)) (fun b x => x = nI b) (fun r => r = nI f) f (by
    rintro b x hb rfl
    unfold jb_X6_dealsSlots_17
    obtain ⟨r, g1, g2⟩ := sl_isFree hL hi hS (b := b) (by omega)
    rw [g1, dp_bd_some]
    by_cases c : b = f
    · subst c
      rw [if_neg (fun z => h1 (g2.mp z))]
      exact Or.inr ⟨_, rfl, rfl⟩
    · rw [if_pos (g2.mpr (h2 b (by omega))), nI_1]
      exact Or.inl ⟨_, rfl, by omega, rfl⟩) dp_F 0 0 (Nat.zero_le _) (dp_F_lt (by omega) 0) rfl
  exact e1
end SL
