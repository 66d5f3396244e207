/-! ===== 34b: grids: all of them, tried by the kernel ===== -/
def gc (w r i b : Nat) : Bool := decide (i ≠ b ∧ i % w ≤ b % w + r ∧ b % w ≤ i % w + r ∧ i / w ≤ b / w + r ∧ b / w ≤ i / w + r)
def gmo (w r i : Nat) : Nat → Nat
  | 0 => 0
  | b + 1 => gmo w r i b ||| (if gc w r i b = true then 2 ^ b else 0)
theorem gmo_lt (w r i : Nat) : ∀ b, b ≤ 12 → gmo w r i b < 4096
  | 0, _ => (by decide : (0 : Nat) < 4096)
  | b + 1, h => by
    unfold gmo
    refine or12 (gmo_lt w r i b (by omega)) ?_
    split
    · exact pw12 (by omega)
    · decide
def s0 (w h : Nat) : dp_Z := (fun k => if k = 1 then nI w else if k = 2 then nI h else 0, fun _ _ => 0)
theorem al {N : Nat} {p : Nat → Bool} (h : (List.range N).all p = true) {k : Nat} (hk : k < N) : p k = true := List.all_eq_true.mp h k (List.mem_range.mpr hk)
def gr_b1 (w h r x y : Nat) : Bool := decide (j_X2_around (s0 w h) (nI x) (nI y) (nI r) = some (nI (gmo w r (w * y + x) (w * h))))
def gr_b2 (w h : Nat) : Bool := !decide (w * h ≤ 12) || (List.range 4).all fun r => (List.range w).all fun x => (List.range h).all fun y => gr_b1 w h r x y
set_option maxRecDepth 100000 in
theorem gr_b3 : ((List.range 13).all fun w => (List.range 13).all fun h => gr_b2 w h) = true := by decide +kernel
theorem gr_around0 {w h r x y : Nat} (hw : w < 13) (hh : h < 13) (hn : w * h ≤ 12) (hr : r < 4) (hx : x < w) (hy : y < h) : j_X2_around (s0 w h) (nI x) (nI y) (nI r) = some (nI (gmo w r (w * y + x) (w * h))) := by
  have h1 := al (al gr_b3 hw) hh
  unfold gr_b2 at h1
  rw [decide_eq_true hn] at h1
  exact of_decide_eq_true (al (al (al h1 hr) hx) hy)
theorem gr_around {s : dp_Z} {w h r x y : Nat} (h1 : s.1 1 = nI w) (h2 : s.1 2 = nI h) (hw : w < 13) (hh : h < 13) (hn : w * h ≤ 12) (hr : r < 4) (hx : x < w) (hy : y < h) : j_X2_around s (nI x) (nI y) (nI r) = some (nI (gmo w r (w * y + x) (w * h))) := by
  rw [← gr_around0 hw hh hn hr hx hy]
  have e18 : ∀ v1 v2 v3 v5, jb_X2_around_18 s v1 v2 v3 v5 = jb_X2_around_18 (s0 w h) v1 v2 v3 v5 := by
    intro v1 v2 v3 v5
    funext z
    unfold jb_X2_around_18
    rw [h1]
    rfl
  have e6 : ∀ v1 v2 v3, jb_X2_around_6 s v1 v2 v3 = jb_X2_around_6 (s0 w h) v1 v2 v3 := by
    intro v1 v2 v3
    funext z
    unfold jb_X2_around_6
    rw [h2, e18]
    rfl
  unfold j_X2_around
  rw [e6, h1]
  rfl
def gr_c1 (w a b r : Nat) : Bool := decide (j_X6_within ((nI a - nI a / nI w * nI w) - (nI b - nI b / nI w * nI w)) (-(nI r)) (nI r) = some (if a % w ≤ b % w + r ∧ b % w ≤ a % w + r then 1 else 0))
def gr_c2 (w a b r : Nat) : Bool := decide (j_X6_within (nI a / nI w - nI b / nI w) (-(nI r)) (nI r) = some (if a / w ≤ b / w + r ∧ b / w ≤ a / w + r then 1 else 0))
set_option maxRecDepth 100000 in
theorem gr_c3 : ((List.range 12).all fun w => (List.range 12).all fun a => (List.range 12).all fun b => (List.range 4).all fun r => gr_c1 (w + 1) a b r && gr_c2 (w + 1) a b r) = true := by decide +kernel
theorem gr_within {w a b r : Nat} (h0 : 0 < w) (hw : w < 13) (ha : a < 12) (hb : b < 12) (hr : r < 4) :
    j_X6_within ((nI a - nI a / nI w * nI w) - (nI b - nI b / nI w * nI w)) (-(nI r)) (nI r) = some (if a % w ≤ b % w + r ∧ b % w ≤ a % w + r then 1 else 0) ∧
    j_X6_within (nI a / nI w - nI b / nI w) (-(nI r)) (nI r) = some (if a / w ≤ b / w + r ∧ b / w ≤ a / w + r then 1 else 0) := by
  have h1 := al (al (al (al gr_c3 (k := w - 1) (by omega)) ha) hb) hr
  rw [show w - 1 + 1 = w by omega, Bool.and_eq_true] at h1
  exact ⟨of_decide_eq_true h1.1, of_decide_eq_true h1.2⟩
