/-! ===== 31: numbers and bits; loops ===== -/
/-- two loops that go side by side -/
theorem dp_rel {σ1 σ2 ρ1 ρ2 : Type} {b1 : σ1 → Option (σ1 ⊕ ρ1)} {b2 : σ2 → Option (σ2 ⊕ ρ2)} (P : Nat → σ1 → σ2 → Prop) (E : ρ1 → ρ2 → Prop) (N : Nat)
    (hs : ∀ i x y, i ≤ N → P i x y → (∃ x' y', b1 x = some (.inl x') ∧ b2 y = some (.inl y') ∧ i < N ∧ P (i + 1) x' y') ∨ (∃ r q, b1 x = some (.inr r) ∧ b2 y = some (.inr q) ∧ E r q)) :
    ∀ F i x y, i ≤ N → N - i < F → P i x y → ∃ r q, dp_loop b1 F x = some r ∧ dp_loop b2 F y = some q ∧ E r q
  | 0, i, x, y, _, h, _ => by omega
  | F + 1, i, x, y, hi, h, hp => by
    rcases hs i x y hi hp with ⟨x', y', e1, e2, hlt, hp'⟩ | ⟨r, q, e1, e2, he⟩
    · obtain ⟨r, q, g1, g2, g3⟩ := dp_rel P E N hs F (i + 1) x' y' (by omega) (by omega) hp'
      exact ⟨r, q, by unfold dp_loop; rw [e1]; exact g1, by unfold dp_loop; rw [e2]; exact g2, g3⟩
    · exact ⟨r, q, by unfold dp_loop; rw [e1], by unfold dp_loop; rw [e2], he⟩
/-- one loop -/
theorem dp_run {σ ρ : Type} {b : σ → Option (σ ⊕ ρ)} (P : Nat → σ → Prop) (E : ρ → Prop) (N : Nat)
    (hs : ∀ i x, i ≤ N → P i x → (∃ x', b x = some (.inl x') ∧ i < N ∧ P (i + 1) x') ∨ (∃ r, b x = some (.inr r) ∧ E r)) :
    ∀ F i x, i ≤ N → N - i < F → P i x → ∃ r, dp_loop b F x = some r ∧ E r
  | 0, i, x, _, h, _ => by omega
  | F + 1, i, x, hi, h, hp => by
    rcases hs i x hi hp with ⟨x', e1, hlt, hp'⟩ | ⟨r, e1, he⟩
    · obtain ⟨r, g1, g3⟩ := dp_run P E N hs F (i + 1) x' (by omega) (by omega) hp'
      exact ⟨r, by unfold dp_loop; rw [e1]; exact g1, g3⟩
    · exact ⟨r, by unfold dp_loop; rw [e1], he⟩
theorem dp_F_lt {N : Nat} (h : N < 10000) (i : Nat) : N - i < dp_F := by
  show N - i < 10000
  omega
theorem dp_bd_some {α β : Type} (a : α) (f : α → Option β) : dp_bd (some a) f = f a := Eq.trans rfl rfl
def nn (x : Int32) : Nat := x.toNatClampNeg
theorem nn_nI {a : Nat} (h : a < 2 ^ 31) : nn (nI a) = a := nI_clamp h
def isN (x : Int32) (lo hi : Nat) : Prop := x = nI (nn x) ∧ lo ≤ nn x ∧ nn x ≤ hi
theorem isN_nI {a lo hi : Nat} (h1 : lo ≤ a) (h2 : a ≤ hi) (h3 : hi < 2 ^ 31) : isN (nI a) lo hi := by
  unfold isN
  rw [nn_nI (by omega)]
  exact ⟨rfl, h1, h2⟩
theorem dp_inb_nI {a n : Nat} (h : a < n) (hn : n < 2 ^ 31) : dp_inb (nI a) n = true := decide_eq_true (vp_in_nI h hn)
theorem mb_shr {s k : Nat} (hs : s < 2 ^ 31) (hk : k < 31) : nI s >>> (nI k &&& 31) = nI (s / 2 ^ k) := pk_shrN hs _ k ((by decide +kernel : ∀ k, k < 31 → ((nI k &&& 31).toBitVec.smod 32).toNat = k) k hk)
theorem mb_bit (s k : Nat) : s / 2 ^ k % 2 = if s.testBit k = true then 1 else 0 := by
  rw [Nat.testBit_eq_decide_div_mod_eq]
  have : s / 2 ^ k % 2 = 0 ∨ s / 2 ^ k % 2 = 1 := by omega
  rcases this with h | h <;> simp [h]
theorem mb_tb {s k : Nat} (hs : s < 2 ^ 31) (hk : k < 31) : (nI s >>> (nI k &&& 31)) &&& 1 = if s.testBit k = true then 1 else 0 := by
  rw [mb_shr hs hk]
  have h1 : nI (s / 2 ^ k) &&& 1 = nI (s / 2 ^ k % 2) := by
    have := fa_and (s / 2 ^ k) 1
    rw [Nat.and_one_is_mod] at this
    exact this
  rw [h1, mb_bit]
  split <;> rfl
theorem mb_isIn {s k : Nat} (hs : s < 2 ^ 31) (hk : k < 31) : j_X5_isIn (nI k) (nI s) = some (if s.testBit k = true then 1 else 0) := by
  unfold j_X5_isIn
  rw [mb_tb hs hk]
  split <;> rfl
theorem mb_has {s k : Nat} (hs : s < 2 ^ 31) (hk : k < 31) : j_X6_has (nI s) (nI k) = some (if s.testBit k = true then 1 else 0) := by
  unfold j_X6_has
  rw [mb_tb hs hk]
  split <;> rfl
theorem mb_one : ∀ k, k < 31 → (1 : Int32) <<< (nI k &&& 31) = nI (2 ^ k) := by decide +kernel
theorem mb_not (a b : Nat) (ha : a < 2 ^ 31) : nI a &&& (nI b ^^^ (-1 : Int32)) = nI (a ^^^ (a &&& b)) := by
  apply Int32.toBitVec_inj.1
  show BitVec.ofNat 32 a &&& (BitVec.ofNat 32 b ^^^ BitVec.allOnes 32) = BitVec.ofNat 32 (a ^^^ (a &&& b))
  apply BitVec.eq_of_getLsbD_eq
  intro i hi
  simp only [BitVec.getLsbD_and, BitVec.getLsbD_xor, BitVec.getLsbD_ofNat, BitVec.getLsbD_allOnes, Nat.testBit_xor, Nat.testBit_and, hi, decide_true, Bool.true_and]
  cases a.testBit i <;> cases b.testBit i <;> rfl
theorem nI_inj {a b : Nat} (ha : a < 2 ^ 31) (hb : b < 2 ^ 31) (h : nI a = nI b) : a = b := (nI_eq ha hb).mp h
theorem mb_size {s : Nat} (hs : s < 2 ^ 31) : j_X6_size (nI s) = some (nI (pcn s)) := by
  unfold j_X6_size
  obtain ⟨r, e1, e2⟩ := dp_run (b := jb_X6_size_4 (nI s)) (fun i x => x = (nI (fb_ct s.testBit i), nI i)) (fun r => r = nI (pcn s)) 12 (by
    intro i x hi hx
    subst hx
    unfold jb_X6_size_4
    by_cases c : i = 12
    · subst c
      exact Or.inr ⟨_, rfl, rfl⟩
    · refine Or.inl ⟨(nI (fb_ct s.testBit i) + (nI s >>> (nI i &&& 31) &&& 1), nI i + 1), if_neg ?_, by omega, ?_⟩
      · show ¬ (12 : Int32) ≤ nI i
        exact nI_ge (b := 12) (by omega) (by decide)
      · rw [mb_tb hs (by omega), nI_1, fb_ct_succ]
        split
        · rw [nI_1]
        · rw [Int32.add_zero]; rfl) dp_F 0 (0, 0) (by decide) (dp_F_lt (by decide) 0) rfl
  rw [e1, e2]
  rfl
