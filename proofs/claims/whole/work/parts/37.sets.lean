/-! ===== 37: sets: thin ones, what is reached, cuts ===== -/
def sub (a b : Nat) : Prop := ∀ i, a.testBit i = true → b.testBit i = true
theorem sub_rf {a : Nat} : sub a a := fun _ h => h
theorem sub_tr {a b c : Nat} (h1 : sub a b) (h2 : sub b c) : sub a c := fun i h => h2 i (h1 i h)
theorem sub_anti {a b : Nat} (h1 : sub a b) (h2 : sub b a) : a = b := by
  apply Nat.eq_of_testBit_eq
  intro i
  cases h : a.testBit i with
  | true => rw [h1 i h]
  | false =>
    cases h' : b.testBit i with
    | false => rfl
    | true => rw [h2 i h'] at h; cases h
theorem sub_or {a b : Nat} : sub a (a ||| b) := fun i h => by rw [Nat.testBit_or, h]; rfl
theorem sub_and {a b c : Nat} (h : sub b c) : sub (a &&& b) (a &&& c) := fun i hi => by
  rw [Nat.testBit_and, Bool.and_eq_true] at hi ⊢
  exact ⟨hi.1, h i hi.2⟩
theorem pcn_sub {a b : Nat} (h : sub a b) : pcn a ≤ pcn b := fb_ct_sub (fun k _ hk => h k hk)
theorem pcn_set {a i : Nat} (hi : i < 12) (h : a.testBit i = false) : pcn (a ||| 2 ^ i) = pcn a + 1 := by
  have h1 := fb_ct_upd a.testBit true (i := i) (n := 12) hi
  have h2 : fb_ct (a ||| 2 ^ i).testBit 12 = fb_ct (fun k => if k = i then true else a.testBit k) 12 := by
    refine fb_ct_cong (fun k _ => ?_)
    rw [fb_bit_set]
    by_cases c : k = i
    · subst c; simp
    · simp [c]
  unfold pcn
  rw [h2]
  rw [h] at h1
  simpa using h1
theorem pcn_lt {a b : Nat} (h : sub a b) (hne : a ≠ b) (hb : b < 4096) : pcn a < pcn b := by
  have : ∃ i, b.testBit i = true ∧ a.testBit i = false := by
    refine Classical.byContradiction (fun z => hne (sub_anti h (fun i hi => ?_)))
    cases ha : a.testBit i with
    | true => rfl
    | false => exact absurd ⟨i, hi, ha⟩ z
  obtain ⟨i, h1, h2⟩ := this
  have hi : i < 12 := by
    rcases Nat.lt_or_ge i 12 with q | q
    · exact q
    · rw [big12 hb q] at h1; cases h1
  have h3 : sub (a ||| 2 ^ i) b := fun j hj => by
    rw [fb_bit_set, Bool.or_eq_true, decide_eq_true_eq] at hj
    rcases hj with hj | rfl
    · exact h j hj
    · exact h1
  have h4 := pcn_sub h3
  rw [pcn_set hi h2] at h4
  omega
def thin (n : Nat) (L : Nat → Nat) (q b : Nat) : Prop := ∀ i, i < n → q.testBit i = false → pcn (L i &&& q) < b
def ps (L : Nat → Nat) (q b : Nat) : Nat → Nat → Nat
  | 0, f => f
  | i + 1, f => if (q ||| ps L q b i f).testBit i = false ∧ b ≤ pcn (L i &&& ps L q b i f) then ps L q b i f ||| 2 ^ i else ps L q b i f
theorem ps_succ (L : Nat → Nat) (q b i f : Nat) : ps L q b (i + 1) f = if (q ||| ps L q b i f).testBit i = false ∧ b ≤ pcn (L i &&& ps L q b i f) then ps L q b i f ||| 2 ^ i else ps L q b i f := rfl
theorem ps_sub (L : Nat → Nat) (q b f : Nat) : ∀ i, sub f (ps L q b i f)
  | 0 => sub_rf
  | i + 1 => by
    rw [ps_succ]
    split
    · exact sub_tr (ps_sub L q b f i) sub_or
    · exact ps_sub L q b f i
theorem ps_step (L : Nat → Nat) (q b f i : Nat) : sub (ps L q b i f) (ps L q b (i + 1) f) := by
  rw [ps_succ]
  split
  · exact sub_or
  · exact sub_rf
theorem ps_mono (L : Nat → Nat) (q b f : Nat) {i : Nat} : ∀ j, sub (ps L q b i f) (ps L q b (i + j) f)
  | 0 => sub_rf
  | j + 1 => sub_tr (ps_mono L q b f j) (ps_step L q b f (i + j))
theorem ps_lt (L : Nat → Nat) (q b : Nat) {f : Nat} (hf : f < 4096) : ∀ i, i ≤ 12 → ps L q b i f < 4096
  | 0, _ => hf
  | i + 1, h => by
    rw [ps_succ]
    split
    · exact or12 (ps_lt L q b hf i (by omega)) (pw12 (by omega))
    · exact ps_lt L q b hf i (by omega)
def closed (n : Nat) (L : Nat → Nat) (q b C : Nat) : Prop := ∀ i, i < n → q.testBit i = false → b ≤ pcn (L i &&& C) → C.testBit i = true
theorem ps_in {n : Nat} {L : Nat → Nat} {q b C f : Nat} (hC : closed n L q b C) (hf : sub f C) : ∀ i, i ≤ n → sub (ps L q b i f) C
  | 0, _ => hf
  | i + 1, h => by
    have ih := ps_in hC hf i (by omega)
    rw [ps_succ]
    split
    · rename_i hc
      intro j hj
      rw [fb_bit_set, Bool.or_eq_true, decide_eq_true_eq] at hj
      rcases hj with hj | rfl
      · exact ih j hj
      · refine hC j (by omega) ?_ (Nat.le_trans hc.2 (pcn_sub (sub_and ih)))
        have := hc.1
        rw [Nat.testBit_or, Bool.or_eq_false_iff] at this
        exact this.1
    · exact ih
theorem ps_closed {n : Nat} {L : Nat → Nat} {q b f : Nat} (h : ps L q b n f = f) : closed n L q b f := by
  intro i hi hq hb
  have e1 : ps L q b i f = f := by
    refine sub_anti ?_ (ps_sub L q b f i)
    have := ps_mono L q b f (i := i) (n - i)
    rw [show i + (n - i) = n by omega, h] at this
    exact this
  have e2 : ps L q b (i + 1) f = f := by
    refine sub_anti ?_ (ps_sub L q b f (i + 1))
    have := ps_mono L q b f (i := i + 1) (n - (i + 1))
    rw [show i + 1 + (n - (i + 1)) = n by omega, h] at this
    exact this
  rw [ps_succ, e1] at e2
  cases hz : f.testBit i with
  | true => rfl
  | false =>
    rw [if_pos ⟨by rw [Nat.testBit_or, hq, hz]; rfl, hb⟩] at e2
    have : (f ||| 2 ^ i).testBit i = true := by rw [fb_bit_set]; simp
    rw [e2, hz] at this
    cases this
def itp (L : Nat → Nat) (q b n : Nat) : Nat → Nat → Nat
  | 0, f => f
  | k + 1, f => ps L q b n (itp L q b n k f)
theorem itp_lt {L : Nat → Nat} {q b n f : Nat} (hn : n ≤ 12) (hf : f < 4096) : ∀ k, itp L q b n k f < 4096
  | 0 => hf
  | k + 1 => ps_lt L q b (itp_lt hn hf k) n hn
theorem itp_fix {L : Nat → Nat} {q b n f k : Nat} (h : itp L q b n (k + 1) f = itp L q b n k f) : ∀ j, itp L q b n (k + j) f = itp L q b n k f
  | 0 => rfl
  | j + 1 => by
    show ps L q b n (itp L q b n (k + j) f) = _
    rw [itp_fix h j]
    exact h
theorem itp_grow {L : Nat → Nat} {q b n f : Nat} (hn : n ≤ 12) (hf : f < 4096) (h0 : 1 ≤ pcn f) : ∀ k, (∀ j, j < k → itp L q b n (j + 1) f ≠ itp L q b n j f) → k + 1 ≤ pcn (itp L q b n k f)
  | 0, _ => h0
  | k + 1, h => by
    have ih := itp_grow hn hf h0 k (fun j hj => h j (by omega))
    have := pcn_lt (ps_sub L q b (itp L q b n k f) n) (Ne.symm (h k (by omega))) (itp_lt hn hf (k + 1))
    have e : ps L q b n (itp L q b n k f) = itp L q b n (k + 1) f := rfl
    rw [e] at this
    omega
def f0N (d : Nat) (L : Nat → Nat) (q : Nat) : Nat := (2 ^ d ||| L d) ^^^ ((2 ^ d ||| L d) &&& q)
def rch (n d : Nat) (L : Nat → Nat) (q b : Nat) : Nat := itp L q b n 12 (f0N d L q)
def cutN (n d : Nat) (L : Nat → Nat) (q b : Nat) : Nat := ((2 ^ n - 1) ^^^ ((2 ^ n - 1) &&& q)) ^^^ (((2 ^ n - 1) ^^^ ((2 ^ n - 1) &&& q)) &&& rch n d L q b)
def NV (s : dp_Z) (n d : Nat) (L : Nat → Nat) : Prop := s.1 0 = nI n ∧ s.1 3 = nI d ∧ ∀ i, i < 12 → L i < 4096 ∧ s.2 0 i = nI (L i)
theorem all_lt {n : Nat} (h : n ≤ 12) : 2 ^ n - 1 < 4096 := by
  have : 2 ^ n ≤ 2 ^ 12 := Nat.pow_le_pow_right (by decide) h
  have : 1 ≤ 2 ^ n := Nat.one_le_two_pow
  omega
section ST
variable {s m : dp_Z} {n d q b : Nat} {L : Nat → Nat}
theorem f0_lt (hd : d < 12) (hL : ∀ i, i < 12 → L i < 4096 ∧ s.2 0 i = nI (L i)) : f0N d L q < 4096 := xor12 (or12 (pw12 hd) (hL d hd).1) (and12 (or12 (pw12 hd) (hL d hd).1))
theorem f0_bit (hq : q.testBit d = false) : (f0N d L q).testBit d = true := by
  unfold f0N
  rw [Nat.testBit_xor, Nat.testBit_and, Nat.testBit_or, hq]
  simp
theorem f0_pos (hd : d < 12) (hq : q.testBit d = false) : 1 ≤ pcn (f0N d L q) := fb_ct_pos.mpr ⟨d, hd, f0_bit hq⟩
theorem rch_lt (hn : n ≤ 12) (hd : d < 12) (hL : ∀ i, i < 12 → L i < 4096 ∧ s.2 0 i = nI (L i)) : rch n d L q b < 4096 := itp_lt hn (f0_lt hd hL) 12
theorem rch_fix (hn : n ≤ 12) (hd : d < 12) (hL : ∀ i, i < 12 → L i < 4096 ∧ s.2 0 i = nI (L i)) (hq : q.testBit d = false) : ∃ K, K ≤ 11 ∧ itp L q b n (K + 1) (f0N d L q) = itp L q b n K (f0N d L q) ∧ ∀ j, j < K → itp L q b n (j + 1) (f0N d L q) ≠ itp L q b n j (f0N d L q) := by
  have ex : ∃ K, itp L q b n (K + 1) (f0N d L q) = itp L q b n K (f0N d L q) := by
    refine Classical.byContradiction (fun z => ?_)
    have := itp_grow (L := L) (q := q) (b := b) hn (f0_lt hd hL) (f0_pos hd hq) 12 (fun j _ e => z ⟨j, e⟩)
    have := pcn_le (itp L q b n 12 (f0N d L q))
    omega
  obtain ⟨K, h1, h2⟩ := pk_least _ ex
  refine ⟨K, ?_, h1, h2⟩
  have := itp_grow (L := L) (q := q) (b := b) hn (f0_lt hd hL) (f0_pos hd hq) K h2
  have := pcn_le (itp L q b n K (f0N d L q))
  omega
theorem rch_closed (hn : n ≤ 12) (hd : d < 12) (hL : ∀ i, i < 12 → L i < 4096 ∧ s.2 0 i = nI (L i)) (hq : q.testBit d = false) : closed n L q b (rch n d L q b) ∧ sub (f0N d L q) (rch n d L q b) ∧ ∀ C, closed n L q b C → sub (f0N d L q) C → sub (rch n d L q b) C := by
  obtain ⟨K, hK, h1, -⟩ := rch_fix (b := b) hn hd hL hq
  have e : rch n d L q b = itp L q b n K (f0N d L q) := by
    have := itp_fix h1 (12 - K)
    rw [show K + (12 - K) = 12 by omega] at this
    exact this
  refine ⟨?_, ?_, fun C hC hf => ?_⟩
  · rw [e]; exact ps_closed h1
  · have : ∀ k, sub (f0N d L q) (itp L q b n k (f0N d L q)) := by
      intro k
      induction k with
      | zero => exact sub_rf
      | succ k ih => exact sub_tr ih (ps_sub _ _ _ _ _)
    exact this 12
  · have : ∀ k, sub (itp L q b n k (f0N d L q)) C := by
      intro k
      induction k with
      | zero => exact hf
      | succ k ih => exact ps_in hC ih n (Nat.le_refl _)
    exact this 12
theorem cr_rel (hs : NV s n d L) (hm : NV m n d L) (hn : n ≤ 12) (hq : q < 4096) (hb : b < 2 ^ 31) : ∃ r, j_X2_leastCrowded s (nI q) (nI b) = some r ∧ j_X6_crowdedBy m (nI q) (nI b) = some r ∧ (r = -9 ↔ thin n L q b) := by
  unfold j_X2_leastCrowded j_X6_crowdedBy
  obtain ⟨r, r', e1, e2, rfl, he⟩ := dp_rel (b1 := jb_X2_leastCrowded_2 s (nI q) (nI b)) (b2 := jb_X6_crowdedBy_2 m (nI q) (nI b)) (fun i x y => x = nI i ∧ y = nI i ∧ ∀ j, j < i → q.testBit j = false → pcn (L j &&& q) < b) (fun r r' => r = r' ∧ ((r = .inr () ∧ thin n L q b) ∨ (∃ i, i < n ∧ r = .inl (nI i) ∧ ¬ thin n L q b))) n (by
    rintro i x y hi ⟨rfl, rfl, ht⟩
    unfold jb_X2_leastCrowded_2 jb_X6_crowdedBy_2
    rw [hs.1, hm.1]
    by_cases c : i = n
    · subst c
      exact Or.inr ⟨_, _, if_pos (nI_le (Nat.le_refl _) (by omega)), if_pos (nI_le (Nat.le_refl _) (by omega)), rfl, Or.inl ⟨rfl, ht⟩⟩
    have hi2 : i < n := by omega
    have lx := hs.2.2 i (by omega)
    have ly := hm.2.2 i (by omega)
    rw [if_neg (nI_ge hi2 (by omega)), if_neg (nI_ge hi2 (by omega)), mb_isIn (s31 hq) (by omega), mb_has (s31 hq) (by omega), dp_bd_some, dp_bd_some]
    have no1 : jj_X2_leastCrowded_35 s (nI q) (nI b) (nI i) = some (.inl (nI (i + 1))) := by unfold jj_X2_leastCrowded_35; rw [nI_1]
    have no2 : jj_X6_crowdedBy_35 m (nI q) (nI b) (nI i) = some (.inl (nI (i + 1))) := by unfold jj_X6_crowdedBy_35; rw [nI_1]
    cases hz : q.testBit i with
    | true =>
      simp only [if_true, i10, no1, no2]
      refine Or.inl ⟨_, _, rfl, rfl, hi2, rfl, rfl, fun j hj hjq => ?_⟩
      by_cases e : j = i
      · subst e; rw [hz] at hjq; cases hjq
      · exact ht j (by omega) hjq
    | false =>
      simp only [Bool.false_eq_true, if_false, i00, if_pos (dp_inb_nI (show i < 12 by omega) (by decide)), nI_clamp (show i < 2 ^ 31 by omega), lx.2, ly.2, fa_and, mb_count _ (and12 lx.1), mb_size (s31 (and12 lx.1)), dp_bd_some, no1, no2, if_true]
      by_cases c2 : pcn (L i &&& q) < b
      · simp only [if_pos (nI_lt c2 hb)]
        refine Or.inl ⟨_, _, rfl, rfl, hi2, rfl, rfl, fun j hj hjq => ?_⟩
        by_cases e : j = i
        · subst e; exact c2
        · exact ht j (by omega) hjq
      · have hp := pcn_le (L i &&& q)
        simp only [if_neg (nI_nlt (show b ≤ pcn (L i &&& q) by omega) (show pcn (L i &&& q) < 2 ^ 31 by omega))]
        exact Or.inr ⟨_, _, rfl, rfl, rfl, Or.inr ⟨i, hi2, rfl, fun z => c2 (z i hi2 hz)⟩⟩) dp_F 0 0 0 (Nat.zero_le _) (dp_F_lt (by omega) 0) ⟨rfl, rfl, fun j hj => absurd hj (Nat.not_lt_zero j)⟩
  rw [e1, e2]
  simp only [dp_bd_some]
  rcases he with ⟨rfl, ht⟩ | ⟨i, hi, rfl, ht⟩
  · exact ⟨-9, rfl, rfl, fun _ => ht, fun _ => rfl⟩
  · exact ⟨nI i, rfl, rfl, fun z => absurd z (ne9 (by omega)), fun z => absurd z ht⟩
theorem wj (hs : NV s n d L) (hn : n ≤ 12) (hq : q < 4096) (hb : b < 2 ^ 31) {f : Nat} (hf : f < 4096) : j_X2_withJoining s (nI f) (nI q) (nI b) = some (nI (ps L q b n f)) := by
  unfold j_X2_withJoining
  obtain ⟨r, e1, rfl⟩ := dp_run (b := jb_X2_withJoining_6 s (nI q) (nI b)) (fun i x => x = (nI (ps L q b i f), nI i)) (fun r => r = nI (ps L q b n f)) n (by
    rintro i x hi rfl
    unfold jb_X2_withJoining_6
    dsimp only
    rw [hs.1]
    by_cases c : i = n
    · subst c
      exact Or.inr ⟨_, if_pos (nI_le (Nat.le_refl _) (by omega)), rfl⟩
    have hi2 : i < n := by omega
    have lx := hs.2.2 i (by omega)
    have hg := ps_lt L q b hf i (by omega)
    have hjj : ∀ t, jj_X2_withJoining_53 s (nI q) (nI b) t (nI i) = some (.inl (t, nI (i + 1))) := by intro t; unfold jj_X2_withJoining_53; rw [nI_1]
    rw [if_neg (nI_ge hi2 (by omega)), fa_or, mb_isIn (s31 (or12 hq hg)) (by omega), dp_bd_some]
    refine Or.inl ⟨(nI (ps L q b (i + 1) f), nI (i + 1)), ?_, hi2, rfl⟩
    rw [ps_succ]
    cases hz : (q ||| ps L q b i f).testBit i with
    | true =>
      simp only [if_true, i10, hjj, Bool.true_eq_false, false_and, if_false]
    | false =>
      simp only [Bool.false_eq_true, if_false, i00, if_pos (dp_inb_nI (show i < 12 by omega) (by decide)), nI_clamp (show i < 2 ^ 31 by omega), lx.2, fa_and, mb_count _ (and12 lx.1), dp_bd_some, hjj, mb_one i (show i < 31 by omega), fa_or, true_and, if_true]
      by_cases c2 : b ≤ pcn (L i &&& ps L q b i f)
      · have hp := pcn_le (L i &&& ps L q b i f)
        rw [if_neg (nI_nlt c2 (by omega)), if_pos c2]
      · rw [if_pos (nI_lt (by omega) hb), if_neg c2]) dp_F 0 (nI f, 0) (Nat.zero_le _) (dp_F_lt (by omega) 0) rfl
  rw [e1, dp_bd_some]
theorem sp_class (hs : NV s n d L) (hn : n ≤ 12) (hd : d < 12) (hq : q < 4096) (hb : b < 2 ^ 31) : j_X2_spread s (nI q) (nI b) = some (nI (rch n d L q b)) := by
  have ld := hs.2.2 d hd
  have hf := f0_lt (q := q) hd hs.2.2
  unfold j_X2_spread
  rw [hs.2.1, if_pos (dp_inb_nI hd (by decide)), nI_clamp (by omega), ld.2, mb_one d (by omega), fa_or, mb_not _ _ (s31 (or12 (pw12 hd) ld.1)), dp_bd_some]
  have e0 : (2 ^ d ||| L d) ^^^ ((2 ^ d ||| L d) &&& q) = f0N d L q := rfl
  rw [e0]
  obtain ⟨r, e1, rfl⟩ := dp_run (b := jb_X2_spread_24 s (nI q) (nI b)) (fun k x => x = (nI (itp L q b n k (f0N d L q)), nI k)) (fun r => r = nI (rch n d L q b)) 12 (by
    rintro k x hk rfl
    unfold jb_X2_spread_24
    dsimp only
    by_cases c : k = 12
    · subst c
      exact Or.inr ⟨_, if_pos (nI_le (b := 12) (Nat.le_refl _) (by decide)), rfl⟩
    rw [if_neg (show ¬ (12 : Int32) ≤ nI k from nI_ge (b := 12) (by omega) (by decide)), wj hs hn hq hb (itp_lt hn hf k), dp_bd_some]
    have e2 : ps L q b n (itp L q b n k (f0N d L q)) = itp L q b n (k + 1) (f0N d L q) := rfl
    rw [e2]
    by_cases c2 : itp L q b n (k + 1) (f0N d L q) = itp L q b n k (f0N d L q)
    · rw [if_pos (by rw [c2])]
      refine Or.inr ⟨_, rfl, ?_⟩
      have := itp_fix c2 (12 - k)
      rw [show k + (12 - k) = 12 by omega] at this
      unfold rch
      rw [this]
    · rw [if_neg (fun z => c2 (nI_inj (s31 (itp_lt hn hf (k + 1))) (s31 (itp_lt hn hf k)) z)), nI_1]
      exact Or.inl ⟨_, rfl, by omega, rfl⟩) dp_F 0 (nI (f0N d L q), 0) (Nat.zero_le _) (dp_F_lt (by decide) 0) rfl
  rw [e1, dp_bd_some]
theorem rb_in (hm : NV m n d L) (hn : n ≤ 12) (hq : q < 4096) (hb : b < 2 ^ 31) {f : Nat} (hf : f < 4096) : dp_loop (jb_X6_reachedBy_35 m (nI q) (nI b)) dp_F (nI f, 0, 0) = some (nI (ps L q b n f), if ps L q b n f = f then 0 else 1) := by
  obtain ⟨r, e1, rfl⟩ := dp_run (b := jb_X6_reachedBy_35 m (nI q) (nI b)) (fun i x => x = (nI (ps L q b i f), (if ps L q b i f = f then 0 else 1), nI i)) (fun r => r = (nI (ps L q b n f), if ps L q b n f = f then 0 else 1)) n (by
    rintro i x hi rfl
    unfold jb_X6_reachedBy_35
    dsimp only
    rw [hm.1]
    by_cases c : i = n
    · subst c
      exact Or.inr ⟨_, if_pos (nI_le (Nat.le_refl _) (by omega)), rfl⟩
    have hi2 : i < n := by omega
    have lx := hm.2.2 i (by omega)
    have hg := ps_lt L q b hf i (by omega)
    have hjj : ∀ t u, jj_X6_reachedBy_88 m (nI q) (nI b) t u (nI i) = some (.inl (t, u, nI (i + 1))) := by intro t u; unfold jj_X6_reachedBy_88; rw [nI_1]
    rw [if_neg (nI_ge hi2 (by omega)), mb_has (s31 hq) (by omega), mb_has (s31 hg) (by omega), dp_bd_some, dp_bd_some]
    refine Or.inl ⟨(nI (ps L q b (i + 1) f), (if ps L q b (i + 1) f = f then 0 else 1), nI (i + 1)), ?_, hi2, rfl⟩
    rw [ps_succ]
    cases hz : q.testBit i with
    | true =>
      have hz2 : (q ||| ps L q b i f).testBit i = true := by rw [Nat.testBit_or, hz]; rfl
      simp only [hz2, if_true, i10, hjj, Bool.true_eq_false, false_and, if_false]
    | false =>
      cases hz3 : (ps L q b i f).testBit i with
      | true =>
        have hz2 : (q ||| ps L q b i f).testBit i = true := by rw [Nat.testBit_or, hz3, Bool.or_true]
        simp only [hz2, Bool.false_eq_true, if_false, i00, if_true, i10, hjj, Bool.true_eq_false, false_and]
      | false =>
        have hz2 : (q ||| ps L q b i f).testBit i = false := by rw [Nat.testBit_or, hz, hz3]; rfl
        simp only [hz2, Bool.false_eq_true, if_false, i00, if_pos (dp_inb_nI (show i < 12 by omega) (by decide)), nI_clamp (show i < 2 ^ 31 by omega), lx.2, fa_and, mb_size (s31 (and12 lx.1)), dp_bd_some, hjj, mb_one i (show i < 31 by omega), fa_or, true_and, if_true]
        by_cases c2 : b ≤ pcn (L i &&& ps L q b i f)
        · have hp := pcn_le (L i &&& ps L q b i f)
          have hne : ¬ ps L q b i f ||| 2 ^ i = f := by
            intro e
            have h1 : f.testBit i = true := by rw [← e, fb_bit_set]; simp
            rw [ps_sub L q b f i i h1] at hz3
            cases hz3
          rw [if_neg (nI_nlt c2 (by omega)), if_pos c2, if_neg hne]
        · rw [if_pos (nI_lt (by omega) hb), if_neg c2]) dp_F 0 (nI f, 0, 0) (Nat.zero_le _) (dp_F_lt (by omega) 0) (by
      show (nI f, (0 : Int32), (0 : Int32)) = (nI f, (if f = f then 0 else 1), nI 0)
      rw [if_pos rfl]
      rfl)
  exact e1
theorem sp_model (hm : NV m n d L) (hn : n ≤ 12) (hd : d < 12) (hq : q < 4096) (hqd : q.testBit d = false) (hb : b < 2 ^ 31) : j_X6_reachedBy m (nI q) (nI b) = some (nI (rch n d L q b)) := by
  have ld := hm.2.2 d hd
  have hf := f0_lt (q := q) hd hm.2.2
  obtain ⟨K, hK, h1, h2⟩ := rch_fix (b := b) hn hd hm.2.2 hqd
  have eR : nI (rch n d L q b) = nI (itp L q b n (K + 1) (f0N d L q)) := by
    have := itp_fix h1 (12 - K)
    rw [show K + (12 - K) = 12 by omega] at this
    unfold rch
    rw [this, h1]
  unfold j_X6_reachedBy
  rw [hm.2.1, if_pos (dp_inb_nI hd (by decide)), nI_clamp (by omega), ld.2, mb_one d (by omega), fa_or, mb_not _ _ (s31 (or12 (pw12 hd) ld.1)), dp_bd_some]
  have e0 : (2 ^ d ||| L d) ^^^ ((2 ^ d ||| L d) &&& q) = f0N d L q := rfl
  rw [e0]
  obtain ⟨r, e1, rfl⟩ := dp_run (b := jb_X6_reachedBy_24 m (nI q) (nI b)) (fun k x => x = (nI (itp L q b n k (f0N d L q)), if k = K + 1 then 0 else 1)) (fun r => r = nI (rch n d L q b)) (K + 1) (by
    rintro k x hk rfl
    unfold jb_X6_reachedBy_24
    dsimp only
    by_cases c : k = K + 1
    · subst c
      rw [if_pos rfl, i00]
      exact Or.inr ⟨_, rfl, eR.symm⟩
    · rw [if_neg c, i10, rb_in hm hn hq hb (itp_lt hn hf k), dp_bd_some]
      refine Or.inl ⟨_, rfl, by omega, ?_⟩
      have e2 : ps L q b n (itp L q b n k (f0N d L q)) = itp L q b n (k + 1) (f0N d L q) := rfl
      dsimp only
      rw [e2]
      by_cases c2 : k = K
      · subst c2
        rw [if_pos h1, if_pos rfl]
      · rw [if_neg (h2 k (by omega)), if_neg (by omega)]) dp_F 0 (nI (f0N d L q), 1) (Nat.zero_le _) (dp_F_lt (by omega) 0) (by rw [if_neg (by omega)]; rfl)
  rw [e1, dp_bd_some]
theorem all_eq (hn : n ≤ 12) : (1 : Int32) <<< (nI n &&& 31) - 1 = nI (2 ^ n - 1) := by
  rw [mb_one n (by omega)]
  exact pk_sub (b := 1) Nat.one_le_two_pow
theorem cut_class (hs : NV s n d L) (hn : n ≤ 12) (hd : d < 12) (hq : q < 4096) (hb : b < 2 ^ 31) : j_X2_cut s (nI q) (nI b) = some (nI (cutN n d L q b)) := by
  unfold j_X2_cut j_X2_all
  rw [hs.1, all_eq hn, dp_bd_some, sp_class hs hn hd hq hb, dp_bd_some, mb_not _ _ (s31 (all_lt hn)), mb_not _ _ (s31 (xor12 (all_lt hn) (and12 (all_lt hn))))]
  rfl
theorem cut_model (hm : NV m n d L) (hn : n ≤ 12) (hd : d < 12) (hq : q < 4096) (hqd : q.testBit d = false) (hb : b < 2 ^ 31) : j_X6_cutBy m (nI q) (nI b) = some (nI (cutN n d L q b)) := by
  unfold j_X6_cutBy
  rw [hm.1, all_eq hn, sp_model hm hn hd hq hqd hb, dp_bd_some, mb_not _ _ (s31 (all_lt hn)), mb_not _ _ (s31 (xor12 (all_lt hn) (and12 (all_lt hn))))]
  rfl
theorem cut_lt (hn : n ≤ 12) : cutN n d L q b < 4096 := xor12 (xor12 (all_lt hn) (and12 (all_lt hn))) (and12 (xor12 (all_lt hn) (and12 (all_lt hn))))
end ST
