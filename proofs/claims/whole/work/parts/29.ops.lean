/-! ===== 29: what the calls of the law are ===== -/
def opX (k : Nat) (a b c : Int32) (s : dp_Z) : Option (Int32 × dp_Z) := match k with
  | 0 => j_X5_net s a
  | 1 => j_X5_grid s a b c
  | 2 => j_X5_edge s a b c
  | 3 => dp_bd (j_X5_neighbours s a) fun r => some (r, s)
  | 4 => j_X5_dealer s a b
  | 5 => j_X5_need s a
  | 6 => j_X5_lie s a b
  | 7 => j_X5_begin s
  | 8 => j_X5_ticks s a
  | 9 => dp_bd (j_X5_node s a b) fun r => some (r, s)
  | 10 => dp_bd (j_X5_band s a b) fun r => some (r, s)
  | 11 => dp_bd (j_X5_sort s a) fun r => some (r, s)
  | 12 => dp_bd (j_X5_crowded s a) fun r => some (r, s)
  | 13 => dp_bd (j_X5_reached s a) fun r => some (r, s)
  | 14 => j_X5_worst s a
  | 15 => dp_bd (j_X5_bears s) fun r => some (r, s)
  | 16 => j_X5_name s a
  | 17 => dp_bd (j_X5_named s a) fun r => some (r, s)
  | 18 => j_X5_walk s a
  | 19 => j_X5_tell s a
  | 20 => j_X5_drop s
  | 21 => dp_bd (j_X5_claim s a b) fun r => some (r, s)
  | 22 => j_X5_proof s a b
  | 23 => j_X5_believes s a
  | 24 => dp_bd (j_X5_many s a) fun r => some (r, s)
  | _ => none
def opM (k : Nat) (a b c : Int32) (s : dp_Z) : Option (Int32 × dp_Z) := match k with
  | 0 => j_X6_net s a
  | 1 => j_X6_grid s a b c
  | 2 => j_X6_edge s a b c
  | 3 => dp_bd (j_X6_neighbours s a) fun r => some (r, s)
  | 4 => j_X6_dealer s a b
  | 5 => j_X6_need s a
  | 6 => j_X6_lie s a b
  | 7 => j_X6_begin s
  | 8 => j_X6_ticks s a
  | 9 => dp_bd (j_X6_node s a b) fun r => some (r, s)
  | 10 => dp_bd (j_X6_band s a b) fun r => some (r, s)
  | 11 => dp_bd (j_X6_sort s a) fun r => some (r, s)
  | 12 => dp_bd (j_X6_crowded s a) fun r => some (r, s)
  | 13 => dp_bd (j_X6_reached s a) fun r => some (r, s)
  | 14 => j_X6_worst s a
  | 15 => j_X6_bears s
  | 16 => j_X6_name s a
  | 17 => dp_bd (j_X6_named s a) fun r => some (r, s)
  | 18 => j_X6_walk s a
  | 19 => j_X6_tell s a
  | 20 => j_X6_drop s
  | 21 => dp_bd (j_X6_claim s a b) fun r => some (r, s)
  | 22 => dp_bd (j_X6_proof s a b) fun r => some (r, s)
  | 23 => dp_bd (j_X6_believes s a) fun r => some (r, s)
  | 24 => dp_bd (j_X6_many s a) fun r => some (r, s)
  | _ => none
/-- what the mathematics owes: class and reference answer alike, and stay in step -/
def lw_sim (R : dp_Z → dp_Z → Prop) : Prop := ∀ σ μ, R σ μ → ∀ (k : Nat) (a b c : Int32), k ≤ 24 → ∃ r σ' μ', opX k a b c σ = some (r, σ') ∧ opM k a b c μ = some (r, μ') ∧ R σ' μ'
