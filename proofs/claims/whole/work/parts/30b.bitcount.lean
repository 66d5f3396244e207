/-! ===== 30b: how many bits: the JDK's own reckoning, over all sets of twelve ===== -/
def pcn (s : Nat) : Nat := fb_ct s.testBit 12
theorem pcn_le (s : Nat) : pcn s ≤ 12 := fb_ct_le _ 12
set_option maxRecDepth 100000 in
theorem mb_count : ∀ s, s < 4096 → j_J6_bitCount_0f7a4 (nI s) = some (nI (pcn s)) := by decide +kernel
