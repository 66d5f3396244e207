/-! ===== 40: ticks; what a node is asked ===== -/
def TX (σ σ' : dp_Z) : Prop := (∀ k, k ≠ 7 → k ≠ 8 → σ'.1 k = σ.1 k) ∧ ∀ a, a ≠ 3 → a ≠ 4 → a ≠ 5 → σ'.2 a = σ.2 a
def TM (μ μ' : dp_Z) : Prop := (∀ k, k ≠ 7 → μ'.1 k = μ.1 k) ∧ ∀ a, a ≠ 3 → a ≠ 4 → a ≠ 5 → a ≠ 6 → μ'.2 a = μ.2 a
def tkn (s : dp_Z) (i u : Nat) : dp_Z := dp_sr (dp_sr s 3 (upd (s.2 3) i (nI u))) 4 (upd (s.2 4) i (s.1 7))
section TK
variable {σ σ' μ μ' : dp_Z} {n w h d v k sp : Nat} {L hd : Nat → Nat} {i s u c : Nat}
theorem TX.rf : TX σ σ := ⟨fun _ _ _ => rfl, fun _ _ _ _ => rfl⟩
theorem TM.rf : TM σ σ := ⟨fun _ _ => rfl, fun _ _ _ _ _ => rfl⟩
theorem TX.tr {s1 s2 s3 : dp_Z} (h1 : TX s1 s2) (h2 : TX s2 s3) : TX s1 s3 := ⟨fun k a b => (h2.1 k a b).trans (h1.1 k a b), fun a x y z => (h2.2 a x y z).trans (h1.2 a x y z)⟩
theorem TM.tr {s1 s2 s3 : dp_Z} (h1 : TM s1 s2) (h2 : TM s2 s3) : TM s1 s3 := ⟨fun k a => (h2.1 k a).trans (h1.1 k a), fun a x y z t => (h2.2 a x y z t).trans (h1.2 a x y z t)⟩
theorem TX.kx (h : TX σ σ') : KX σ σ' := ⟨fun k _ h7 h8 => h.1 k h7 h8, fun a _ h3 h4 h5 => h.2 a h3 h4 h5⟩
theorem TM.km (h : TM μ μ') : KM μ μ' := ⟨fun k _ h7 => h.1 k h7, fun a _ h3 h4 h5 h6 => h.2 a h3 h4 h5 h6⟩
theorem TX.h5 {f : Nat → Int32} : TX σ (dp_sr σ 5 f) := ⟨fun _ _ _ => rfl, fun _ _ _ z => sr_ne z⟩
theorem TM.h6 {f : Nat → Int32} : TM σ (dp_sr σ 6 f) := ⟨fun _ _ => rfl, fun _ _ _ _ z => sr_ne z⟩
theorem TM.h5 {f : Nat → Int32} : TM σ (dp_sr σ 5 f) := ⟨fun _ _ => rfl, fun _ _ _ z _ => sr_ne z⟩
theorem TX.f8 {x : Int32} : TX σ (dp_sf σ 8 x) := ⟨fun _ _ z => sf_ne z, fun _ _ _ _ => rfl⟩
theorem TX.f7 {x : Int32} : TX σ (dp_sf σ 7 x) := ⟨fun _ z _ => sf_ne z, fun _ _ _ _ => rfl⟩
theorem TM.f7 {x : Int32} : TM σ (dp_sf σ 7 x) := ⟨fun _ z => sf_ne z, fun _ _ _ _ _ => rfl⟩
theorem TX.tk : TX σ (tkn σ i u) := ⟨fun _ _ _ => rfl, fun a z y _ => by unfold tkn; rw [sr_ne y, sr_ne z]⟩
theorem TM.tk : TM σ (tkn σ i u) := ⟨fun _ _ => rfl, fun a z y _ _ => by unfold tkn; rw [sr_ne y, sr_ne z]⟩
theorem RS.tk (hS : RS σ μ n) (hX : TX σ σ') (hM : TM μ μ') : RS σ' μ' n := by
  unfold RS VS at hS ⊢
  rw [hX.1 6 (by decide) (by decide), hM.1 6 (by decide), hX.2 2 (by decide) (by decide) (by decide), hM.2 2 (by decide) (by decide) (by decide) (by decide)]
  exact hS
theorem vt_hear (hT : VT σ μ sp hd) {j : Nat} (hj : j < 48) (hs : s < 12) (hsp : sp.testBit s = true) (hz : (hd j).testBit s = false) : VT (dp_sr σ 5 (upd (σ.2 5) j (nI (pcn (hd j) + 1)))) (dp_sr μ 6 (upd (μ.2 6) j (nI (hd j ||| 2 ^ s)))) sp (fun i => if i = j then hd j ||| 2 ^ s else hd i) := by
  obtain ⟨t1, t2, t3, t4⟩ := hT
  refine ⟨t1, fun i hi => ?_, ⟨t3.1, t3.2.1, fun i hi => ?_⟩, fun i hi => ?_⟩
  · rw [sr_ne (by decide), sr_ne (by decide), sr_ne (by decide), sr_ne (by decide)]; exact t2 i hi
  · rw [sr_ne (by decide)]; exact t3.2.2 i hi
  · rw [sr_eq, sr_eq]
    by_cases e : i = j
    · subst e
      simp only [if_true]
      rw [up_eq, up_eq, pcn_set hs hz]
      refine ⟨or12 (t4 i hi).1 (pw12 hs), rfl, rfl, fun b hb => ?_⟩
      rw [fb_bit_set, Bool.or_eq_true, decide_eq_true_eq] at hb
      rcases hb with z | z
      · exact (t4 i hi).2.2.2 b z
      · rw [z]; exact hsp
    · simp only [if_neg e]
      rw [up_ne e, up_ne e]; exact t4 i hi
theorem vt_take (hT : VT σ μ sp hd) (hu : u < 4) : VT (tkn σ i u) (tkn μ i u) sp hd := by
  obtain ⟨t1, t2, t3, t4⟩ := hT
  unfold tkn
  refine ⟨t1, fun j hj => ?_, ⟨t3.1, t3.2.1, fun j hj => ?_⟩, fun j hj => ?_⟩
  · rw [sr_ne (show (3 : Nat) ≠ 4 by decide), sr_ne (show (3 : Nat) ≠ 4 by decide), sr_eq, sr_eq, sr_eq, sr_eq]
    by_cases e : j = i
    · subst e
      rw [up_eq, up_eq, up_eq, up_eq]
      exact ⟨rfl, Or.inr ⟨u, hu, rfl⟩, t1⟩
    · rw [up_ne e, up_ne e, up_ne e, up_ne e]; exact t2 j hj
  · rw [sr_ne (by decide), sr_ne (by decide)]; exact t3.2.2 j hj
  · rw [sr_ne (by decide), sr_ne (by decide), sr_ne (by decide), sr_ne (by decide)]; exact t4 j hj
theorem hear_class (hV : VN σ μ n w h d v k L) (hi : i < n) (hs : s < n) (hu : u < 4) (hc : σ.2 5 (4 * i + u) = nI c) (hcl : c < 100) :
    j_X3_hear σ (nI i) (nI s) (nI u) = some (if σ.2 1 i = -9 ∧ σ.2 3 i = -9 ∧ (s = d ∨ k ≤ c + 1) then (1, tkn (dp_sr σ 5 (upd (σ.2 5) (4 * i + u) (nI (c + 1)))) i u) else (0, dp_sr σ 5 (upd (σ.2 5) (4 * i + u) (nI (c + 1))))) := by
  have hn := hV.1.2.1
  have hd := hV.1.2.2.2.2.2.1
  have hk := hV.1.2.2.2.2.2.2.2.2
  have e1 : nI i * 4 + nI u = nI (4 * i + u) := by rw [show (4 : Int32) = nI 4 from rfl, pk_mul, nI_add, Nat.mul_comm]
  have t63 : ∀ z : dp_Z, jj_X3_hear_63 z (nI i) (nI u) = some (1, tkn z i u) := by
    intro z
    unfold jj_X3_hear_63
    rw [if_pos (dp_inb_nI (by omega) (by decide)), dp_bd_some, if_pos (dp_inb_nI (by omega) (by decide)), dp_bd_some, nI_clamp (by omega)]
    rfl
  have ho : ∀ z : dp_Z, j_X3_heardOf z (nI i) (nI u) = some (z.2 5 (4 * i + u)) := by
    intro z
    unfold j_X3_heardOf
    rw [e1, if_pos (dp_inb_nI (by omega) (by decide)), nI_clamp (by omega)]
  unfold j_X3_hear
  rw [e1, if_pos (dp_inb_nI (by omega) (by decide)), if_pos (dp_inb_nI (by omega) (by decide)), dp_bd_some, nI_clamp (show 4 * i + u < 2 ^ 31 by omega), nI_clamp (show i < 2 ^ 31 by omega), hc, nI_1, if_pos (dp_inb_nI (by omega) (by decide)), if_pos (dp_inb_nI (by omega) (by decide)), sr_ne (show (1 : Nat) ≠ 5 by decide), sr_ne (show (3 : Nat) ≠ 5 by decide), ho, dp_bd_some, sr_eq, up_eq, sr_1, hV.2.1.2.2.2.1, hV.2.1.2.2.2.2.2, t63]
  by_cases a1 : σ.2 1 i = -9
  rotate_left
  · rw [if_neg a1, if_neg (fun z => a1 z.1)]
  by_cases a2 : σ.2 3 i = -9
  rotate_left
  · rw [if_pos a1, if_neg a2, if_neg (fun z => a2 z.2.1)]
  rw [if_pos a1, if_pos a2]
  by_cases a3 : s = d
  · rw [if_pos (by rw [a3]), if_pos ⟨a1, a2, Or.inl a3⟩]
  rw [if_neg (fun z => a3 (nI_inj (by omega) (by omega) z))]
  by_cases a4 : k ≤ c + 1
  · rw [if_pos (nI_le a4 (by omega)), if_pos ⟨a1, a2, Or.inr a4⟩]
  · rw [if_neg (nI_ge (show c + 1 < k by omega) (by omega)), if_neg (fun z => z.2.2.elim a3 a4)]
theorem hear_model (hV : VN σ μ n w h d v k L) (hi : i < n) (hs : s < n) (hu : u < 4) (hl : (L s).testBit i = true) (hc : μ.2 6 (4 * i + u) = nI c) (hcl : c < 4096) (hz : c.testBit s = false) (t : Int32) :
    jb_X6_speaks_12 (nI s) (nI u) (μ, t, nI i) = some (.inl (if μ.2 1 i = -9 ∧ μ.2 3 i = -9 ∧ (s = d ∨ k ≤ pcn c + 1) then (tkn (dp_sr μ 6 (upd (μ.2 6) (4 * i + u) (nI (c ||| 2 ^ s)))) i u, t + 1, nI (i + 1)) else (dp_sr μ 6 (upd (μ.2 6) (4 * i + u) (nI (c ||| 2 ^ s))), t, nI (i + 1)))) := by
  have hn := hV.1.2.1
  have hd := hV.1.2.2.2.2.2.1
  have hk := hV.1.2.2.2.2.2.2.2.2
  have hp := pcn_le c
  have e1 : 4 * nI i + nI u = nI (4 * i + u) := by rw [show (4 : Int32) = nI 4 from rfl, pk_mul, nI_add]
  have hor : c ||| 2 ^ s < 4096 := or12 hcl (pw12 (by omega))
  have t136 : ∀ (z : dp_Z) (t : Int32), jj_X6_speaks_136 z (nI s) (nI u) t (nI i) = some (.inl (z, t, nI (i + 1))) := by
    intro z t
    unfold jj_X6_speaks_136
    rw [nI_1]
  have t86 : ∀ (z : dp_Z) (q : Int32), jj_X6_speaks_86 z (nI s) (nI u) t (nI i) q = some (.inl (if z.2 1 i = -9 ∧ z.2 3 i = -9 ∧ ¬ q = 0 then (tkn z i u, t + 1, nI (i + 1)) else (z, t, nI (i + 1)))) := by
    intro z q
    unfold jj_X6_speaks_86 j_X6_isHonest
    simp only [t136]
    rw [if_pos (dp_inb_nI (by omega) (by decide)), nI_clamp (show i < 2 ^ 31 by omega)]
    by_cases a1 : z.2 1 i = -9
    rotate_left
    · rw [if_neg a1, dp_bd_some, i00, if_neg (fun y => a1 y.1)]
    rw [if_pos a1, dp_bd_some, i10, if_pos (dp_inb_nI (by omega) (by decide))]
    by_cases a2 : z.2 3 i = -9
    rotate_left
    · rw [if_neg a2, if_neg (fun y => a2 y.2.1)]
    rw [if_pos a2]
    by_cases a3 : q = 0
    · rw [if_pos a3, if_neg (fun y => y.2.2 a3)]
    · rw [if_neg a3, if_pos (show z.2 1 i = -9 ∧ z.2 3 i = -9 ∧ ¬ q = 0 from ⟨a1, a2, a3⟩), if_pos (dp_inb_nI (by omega) (by decide)), dp_bd_some, if_pos (dp_inb_nI (by omega) (by decide)), dp_bd_some]
      rfl
  unfold jb_X6_speaks_12 jj_X6_speaks_81
  dsimp only
  simp only [t86]
  rw [hV.2.2.1.1, if_neg (nI_ge hi (by omega)), if_pos (dp_inb_nI (by omega) (by decide)), nI_clamp (show s < 2 ^ 31 by omega), (hV.2.2.2.1 s (by omega)).2.2, mb_has (s31 (hV.2.2.2.1 s (by omega)).1) (by omega), dp_bd_some, if_pos hl, i10, e1, if_pos (dp_inb_nI (by omega) (by decide)), if_pos (dp_inb_nI (by omega) (by decide)), dp_bd_some, nI_clamp (show 4 * i + u < 2 ^ 31 by omega), hc, mb_one s (by omega), fa_or, if_pos (dp_inb_nI (by omega) (by decide)), sr_eq, up_eq, mb_size (s31 hor), dp_bd_some, pcn_set (by omega) hz, sr_1, hV.2.2.1.2.2.2.1, hV.2.2.1.2.2.2.2.2, sr_ne (show (1 : Nat) ≠ 6 by decide), sr_ne (show (3 : Nat) ≠ 6 by decide)]
  by_cases a3 : s = d
  · rw [if_pos (by rw [a3])]
    simp only [a3, true_or, and_true, show ¬ (1 : Int32) = 0 by decide, not_false_eq_true]
  rw [if_neg (fun z => a3 (nI_inj (by omega) (by omega) z))]
  by_cases a4 : k ≤ pcn c + 1
  · rw [if_neg (nI_nlt a4 (by omega))]
    simp only [a4, or_true, and_true, show ¬ (1 : Int32) = 0 by decide, not_false_eq_true]
  · rw [if_pos (nI_lt (by omega) (by omega))]
    simp only [a3, a4, or_self, and_false, not_true_eq_false]
theorem speak_rel (hV : VN σ μ n w h d v k L) (hT : VT σ μ sp hd) (hs : s < n) (hu : u < 4) (hz : sp.testBit s = false) : ∃ e σ' μ' sp' hd', jj_X3_speak_26 σ (nI s) (nI u) = some (e, σ') ∧ j_X6_speaks μ (nI s) (nI u) = some (e, μ') ∧ VT σ' μ' sp' hd' ∧ TX σ σ' ∧ TM μ μ' := by
  have hn := hV.1.2.1
  have hiv : j_X5_isValue (nI u) = some 1 := by
    rcases in_val (nI u) with ⟨i, _, _, z, _⟩ | ⟨z, _⟩
    · exact z
    · exact absurd rfl (z u hu)
  unfold jj_X3_speak_26 j_X6_speaks
  rw [hiv, dp_bd_some, i10, dp_bd_some, if_pos (dp_inb_nI (by omega) (by decide)), dp_bd_some, hT.2.2.1.2.1, mb_one s (by omega), fa_or, nI_clamp (by omega), show (1 : Int32) &&& 1 = 1 from by decide]
  have hT1 : VT (dp_sf σ 8 (nI (sp ||| 2 ^ s))) (dp_sr μ 5 (upd (μ.2 5) s 1)) (sp ||| 2 ^ s) hd := by
    obtain ⟨t1, t2, t3, t4⟩ := hT
    refine ⟨t1, fun i hi => ?_, ⟨or12 t3.1 (pw12 (by omega)), sf_eq, fun i hi => ?_⟩, fun i hi => ?_⟩
    · rw [sf_2, sr_ne (by decide), sr_ne (by decide)]; exact t2 i hi
    · rw [sr_eq, fb_bit_set]
      by_cases e : i = s
      · subst e; rw [up_eq]; simp
      · rw [up_ne e, t3.2.2 i hi]; simp [e]
    · rw [sf_2, sr_ne (by decide)]
      refine ⟨(t4 i hi).1, (t4 i hi).2.1, (t4 i hi).2.2.1, fun b hb => ?_⟩
      rw [fb_bit_set, (t4 i hi).2.2.2 b hb]; rfl
  have hX1 : TX σ (dp_sf σ 8 (nI (sp ||| 2 ^ s))) := TX.f8
  have hM1 : TM μ (dp_sr μ 5 (upd (μ.2 5) s 1)) := TM.h5
  have hfree : ∀ j, j < 48 → (hd j).testBit s = false := by
    intro j hj
    cases y : (hd j).testBit s with
    | false => rfl
    | true => exact absurd ((hT.2.2.2 j hj).2.2.2 s y) (by rw [hz]; decide)
  have hsp : (sp ||| 2 ^ s).testBit s = true := by rw [fb_bit_set]; simp
  generalize sp ||| 2 ^ s = sp' at hT1 hX1 hsp ⊢
  generalize dp_sf σ 8 (nI sp') = σ1 at hT1 hX1 ⊢
  generalize dp_sr μ 5 (upd (μ.2 5) s 1) = μ1 at hT1 hM1 ⊢
  obtain ⟨⟨rs, re⟩, ⟨qm, qe⟩, f1, f2, he, ⟨hd', hT'⟩, hX', hM'⟩ := dp_rel (b1 := jb_X3_speak_54 (nI s) (nI u)) (b2 := jb_X6_speaks_12 (nI s) (nI u))
    (fun i x y => x.2 = y.2 ∧ x.2.2 = nI i ∧ VN x.1 y.1 n w h d v k L ∧ (∃ hd', VT x.1 y.1 sp' hd' ∧ ∀ j, 4 * i ≤ j → j < 48 → (hd' j).testBit s = false) ∧ TX σ x.1 ∧ TM μ y.1)
    (fun r q => r.2 = q.2 ∧ (∃ hd', VT r.1 q.1 sp' hd') ∧ TX σ r.1 ∧ TM μ q.1) n (by
    rintro i ⟨x, t, ix⟩ ⟨y, t', iy⟩ hi ⟨p1, p2, pV, ⟨hd', pT, pz⟩, pX, pM⟩
    simp only [Prod.mk.injEq] at p1 p2
    obtain ⟨rfl, rfl⟩ := p1
    subst p2
    dsimp only at pV pT pX pM
    unfold jb_X3_speak_54
    dsimp only
    rw [pV.2.1.1]
    by_cases ce : i = n
    · subst ce
      unfold jb_X6_speaks_12
      dsimp only
      rw [pV.2.2.1.1]
      exact Or.inr ⟨_, _, if_pos (nI_le (Nat.le_refl _) (by omega)), if_pos (nI_le (Nat.le_refl _) (by omega)), rfl, ⟨hd', pT⟩, pX, pM⟩
    have hi2 : i < n := by omega
    rw [if_neg (nI_ge hi2 (by omega)), sl_linked pV.nv.1.2.2 (by omega) (by omega), dp_bd_some]
    have t87 : ∀ (z : dp_Z) (t : Int32), jj_X3_speak_87 z (nI s) (nI u) t (nI i) = some (.inl (z, t, nI (i + 1))) := by intro z t; unfold jj_X3_speak_87; rw [nI_1]
    by_cases hl : (L s).testBit i = true
    rotate_left
    · rw [if_neg hl, i00, t87]
      refine Or.inl ⟨_, (y, t, nI (i + 1)), rfl, ?_, hi2, rfl, rfl, pV, ⟨hd', pT, fun j hj => pz j (by omega)⟩, pX, pM⟩
      unfold jb_X6_speaks_12 jj_X6_speaks_136
      dsimp only
      rw [pV.2.2.1.1, if_neg (nI_ge hi2 (by omega)), if_pos (dp_inb_nI (by omega) (by decide)), nI_clamp (show s < 2 ^ 31 by omega), (pV.2.2.2.1 s (by omega)).2.2, mb_has (s31 (pV.2.2.2.1 s (by omega)).1) (by omega), dp_bd_some, if_neg hl, i00, nI_1]
    have h4 := pT.2.2.2 (4 * i + u) (by omega)
    have hzz := pz (4 * i + u) (by omega) (by omega)
    have hple := pcn_le (hd' (4 * i + u))
    rw [if_pos hl, i10, hear_class pV hi2 hs hu h4.2.2.1 (by omega), dp_bd_some, hear_model pV hi2 hs hu hl h4.2.1 h4.1 hzz t, t87, (pV.2.2.2.2 i (by omega)).1, (pT.2.1 i (by omega)).1]
    have hv := vt_hear pT (show 4 * i + u < 48 by omega) (show s < 12 by omega) hsp hzz
    have hbit : ∀ j, 4 * (i + 1) ≤ j → j < 48 → (if j = 4 * i + u then hd' (4 * i + u) ||| 2 ^ s else hd' j).testBit s = false := fun j h1 h2 => by
      rw [if_neg (by omega)]; exact pz j (by omega) h2
    have hX5 := TX.tr pX (TX.h5 (σ := x) (f := upd (x.2 5) (4 * i + u) (nI (pcn (hd' (4 * i + u)) + 1))))
    have hM6 := TM.tr pM (TM.h6 (σ := y) (f := upd (y.2 6) (4 * i + u) (nI (hd' (4 * i + u) ||| 2 ^ s))))
    have hV5 := pV.keep (TX.kx (TX.h5 (σ := x) (f := upd (x.2 5) (4 * i + u) (nI (pcn (hd' (4 * i + u)) + 1))))) (TM.km (TM.h6 (σ := y) (f := upd (y.2 6) (4 * i + u) (nI (hd' (4 * i + u) ||| 2 ^ s)))))
    by_cases cc : x.2 1 i = -9 ∧ x.2 3 i = -9 ∧ (s = d ∨ k ≤ pcn (hd' (4 * i + u)) + 1)
    · rw [if_pos cc, if_pos cc]
      exact Or.inl ⟨_, _, rfl, rfl, hi2, rfl, rfl, hV5.keep (TX.kx TX.tk) (TM.km TM.tk), ⟨_, vt_take hv hu, hbit⟩, TX.tr hX5 TX.tk, TM.tr hM6 TM.tk⟩
    · rw [if_neg cc, if_neg cc]
      exact Or.inl ⟨_, _, rfl, rfl, hi2, by dsimp only; rw [Int32.add_zero], rfl, hV5, ⟨_, hv, hbit⟩, hX5, hM6⟩) dp_F 0 (σ1, 0, 0) (μ1, 0, 0) (Nat.zero_le _) (dp_F_lt (by omega) 0) ⟨rfl, rfl, hV.keep hX1.kx hM1.km, ⟨hd, hT1, fun j _ hj => hfree j hj⟩, hX1, hM1⟩
  dsimp only at he hT' hX' hM'
  subst he
  rw [f1, f2, dp_bd_some, dp_bd_some]
  exact ⟨_, _, _, _, _, rfl, rfl, hT', hX', hM'⟩
theorem speak_class (hi : i < 12) : j_X3_speak σ (nI i) = jj_X3_speak_26 σ (nI i) (if σ.2 1 i = -9 then σ.2 3 i else σ.2 1 i) := by
  unfold j_X3_speak
  rw [if_pos (dp_inb_nI hi (by decide)), if_pos (dp_inb_nI hi (by decide)), if_pos (dp_inb_nI hi (by decide)), nI_clamp (by omega)]
  split <;> rfl
theorem says_model (hi : i < 12) : j_X6_says μ (nI i) = some (if μ.2 5 i = 0 then (if μ.2 1 i = -9 then μ.2 3 i else if μ.2 1 i = 4 then -9 else μ.2 1 i) else -9) := by
  unfold j_X6_says j_X6_isHonest
  rw [if_pos (dp_inb_nI hi (by decide)), if_pos (dp_inb_nI hi (by decide)), if_pos (dp_inb_nI hi (by decide)), if_pos (dp_inb_nI hi (by decide)), if_pos (dp_inb_nI hi (by decide)), nI_clamp (by omega)]
  by_cases a1 : μ.2 5 i = 0
  · rw [if_pos a1, if_pos a1]
    by_cases a2 : μ.2 1 i = -9
    · rw [if_pos a2, if_pos a2, dp_bd_some, i10]
    · rw [if_neg a2, if_neg a2, dp_bd_some, i00]
      split <;> rfl
  · rw [if_neg a1, if_neg a1]
theorem pass_rel (hR : RR σ μ) : ∃ e σ' μ', j_X3_pass σ = some (e, σ') ∧ j_X6_tick μ = some (e, μ') ∧ RR σ' μ' := by
  obtain ⟨n, w, h, d, v, k, L, hV, hS, ⟨sp, hd, hT⟩, hC, hW, hL⟩ := hR
  have hn := hV.1.2.1
  obtain ⟨r, S, ⟨r1, r2⟩, r3, r4, -⟩ := id hS
  unfold j_X3_pass j_X6_tick jj_X3_pass_20
  rw [r3, r4, hT.1, if_neg (show ¬ nI r ≤ (0 : Int32) from nI_nle (by omega) (by omega)), if_neg (nz (by omega) (by omega)), if_neg (nz (by omega) (by omega))]
  generalize σ.1 7 - σ.1 7 / nI r * nI r = q
  rw [dp_bd_some, dp_bd_some]
  have hT1 : VT (dp_sf σ 7 (σ.1 7 + 1)) (dp_sf μ 7 (σ.1 7 + 1)) sp hd := by
    obtain ⟨t1, t2, t3, t4⟩ := hT
    exact ⟨by rw [sf_eq, sf_eq], t2, ⟨t3.1, by rw [sf_ne (by decide)]; exact t3.2.1, t3.2.2⟩, t4⟩
  obtain ⟨⟨rs, re⟩, ⟨qm, qe⟩, f1, f2, he, hT', hX', hM'⟩ := dp_rel (b1 := jb_X3_pass_36 q) (b2 := jb_X6_tick_24 q)
    (fun i x y => x.2 = y.2 ∧ x.2.2 = nI i ∧ RT x.1 y.1 ∧ TX σ x.1 ∧ TM μ y.1)
    (fun r q => r.2 = q.2 ∧ RT r.1 q.1 ∧ TX σ r.1 ∧ TM μ q.1) n (by
    rintro i ⟨x, t, ix⟩ ⟨y, t', iy⟩ hi ⟨p1, p2, pT, pX, pM⟩
    simp only [Prod.mk.injEq] at p1 p2
    obtain ⟨rfl, rfl⟩ := p1
    subst p2
    dsimp only at pT pX pM
    have pV := hV.keep pX.kx pM.km
    obtain ⟨r', S', -, -, -, pS⟩ := hS.tk pX pM
    unfold jb_X3_pass_36 jb_X6_tick_24 jj_X3_pass_78 jj_X6_tick_65
    dsimp only
    rw [pV.2.1.1, pV.2.2.1.1]
    by_cases ce : i = n
    · subst ce
      exact Or.inr ⟨_, _, if_pos (nI_le (Nat.le_refl _) (by omega)), if_pos (nI_le (Nat.le_refl _) (by omega)), rfl, pT, pX, pM⟩
    have hi2 : i < n := by omega
    have hi12 : i < 12 := by omega
    rw [if_neg (nI_ge hi2 (by omega)), if_neg (nI_ge hi2 (by omega)), if_pos (dp_inb_nI hi12 (by decide)), if_pos (dp_inb_nI hi12 (by decide)), nI_clamp (by omega), (pS i hi2).2.1, (pS i hi2).2.2, nI_1]
    have skip : ∃ x' y', (some (.inl (x, t, nI (i + 1))) : Option ((dp_Z × Int32 × Int32) ⊕ (dp_Z × Int32))) = some (.inl x') ∧ (some (.inl (y, t, nI (i + 1))) : Option ((dp_Z × Int32 × Int32) ⊕ (dp_Z × Int32))) = some (.inl y') ∧ i < n ∧ x'.2 = y'.2 ∧ x'.2.2 = nI (i + 1) ∧ RT x'.1 y'.1 ∧ TX σ x'.1 ∧ TM μ y'.1 := ⟨_, _, rfl, rfl, hi2, rfl, rfl, pT, pX, pM⟩
    by_cases cs : nI (S' i) = q
    rotate_left
    · rw [if_neg cs, if_neg cs]
      exact Or.inl skip
    rw [if_pos cs, if_pos cs]
    obtain ⟨sp1, hd1, hT1⟩ := pT
    have t3 := hT1.2.2.1
    rw [t3.2.1, mb_isIn (s31 t3.1) (by omega), dp_bd_some, says_model hi12, dp_bd_some, dp_bd_some, t3.2.2 i hi12, (pV.2.2.2.2 i hi12).1, (hT1.2.1 i hi12).1]
    by_cases cb : sp1.testBit i = true
    · rw [if_pos cb, i10, i10, if_pos rfl]
      exact Or.inl skip
    have cb2 : sp1.testBit i = false := by simpa using cb
    rw [if_neg cb, i00, i00, speak_class hi12]
    have no26 : ∀ z : Int32, j_X5_isValue z = some 0 → jj_X3_speak_26 x (nI i) z = some (0, x) := by
      intro z hz
      unfold jj_X3_speak_26
      rw [hz, dp_bd_some, i00]
    have yes : ∀ u, u < 4 → ∃ x' y', (dp_bd (jj_X3_speak_26 x (nI i) (nI u)) fun x3 => (some (.inl (x3.2, t + x3.1, nI (i + 1))) : Option ((dp_Z × Int32 × Int32) ⊕ (dp_Z × Int32)))) = some (.inl x') ∧ (dp_bd (j_X6_speaks y (nI i) (nI u)) fun x4 => (some (.inl (x4.2, t + x4.1, nI (i + 1))) : Option ((dp_Z × Int32 × Int32) ⊕ (dp_Z × Int32)))) = some (.inl y') ∧ i < n ∧ x'.2 = y'.2 ∧ x'.2.2 = nI (i + 1) ∧ RT x'.1 y'.1 ∧ TX σ x'.1 ∧ TM μ y'.1 := by
      intro u hu
      obtain ⟨e, σ', μ', sp', hd', g1, g2, g3, g4, g5⟩ := speak_rel pV hT1 hi2 hu cb2
      rw [g1, g2, dp_bd_some, dp_bd_some]
      exact ⟨_, _, rfl, rfl, hi2, rfl, rfl, ⟨sp', hd', g3⟩, TX.tr pX g4, TM.tr pM g5⟩
    have skip0 : ∃ x' y', (some (.inl (x, t + 0, nI (i + 1))) : Option ((dp_Z × Int32 × Int32) ⊕ (dp_Z × Int32))) = some (.inl x') ∧ (some (.inl (y, t, nI (i + 1))) : Option ((dp_Z × Int32 × Int32) ⊕ (dp_Z × Int32))) = some (.inl y') ∧ i < n ∧ x'.2 = y'.2 ∧ x'.2.2 = nI (i + 1) ∧ RT x'.1 y'.1 ∧ TX σ x'.1 ∧ TM μ y'.1 := by rw [Int32.add_zero]; exact skip
    rcases (pV.2.2.2.2 i hi12).2 with z | ⟨a, ha, z⟩
    · rw [z, if_pos rfl, if_pos rfl]
      rcases (hT1.2.1 i hi12).2.1 with y | ⟨u, hu, y⟩
      · rw [y, if_pos rfl, no26 _ rfl, dp_bd_some]
        exact Or.inl skip0
      · rw [y, if_neg (ne9 (by omega))]
        exact Or.inl (yes u hu)
    · rw [z, if_neg (ne9 (by omega)), if_neg (ne9 (by omega))]
      by_cases c4 : a = 4
      · subst c4
        rw [if_pos (show nI 4 = (4 : Int32) from rfl), if_pos rfl, no26 _ rfl, dp_bd_some]
        exact Or.inl skip0
      · rw [if_neg (show ¬ nI a = (4 : Int32) from fun y => c4 (nI_inj (by omega) (show 4 < 2 ^ 31 by decide) y)), if_neg (ne9 (by omega))]
        exact Or.inl (yes a (by omega))) dp_F 0 (dp_sf σ 7 (σ.1 7 + 1), 0, 0) (dp_sf μ 7 (σ.1 7 + 1), 0, 0) (Nat.zero_le _) (dp_F_lt (by omega) 0) ⟨rfl, rfl, ⟨sp, hd, hT1⟩, TX.f7, TM.f7⟩
  dsimp only at he hT' hX' hM'
  subst he
  rw [f1, f2, dp_bd_some, dp_bd_some]
  exact ⟨_, _, _, rfl, rfl, n, w, h, d, v, k, L, hV.keep hX'.kx hM'.km, hS.tk hX' hM', hT', hC.keep hX'.kx hM'.km, hW.keep hX'.kx hM'.km, hL.keep hX'.kx hM'.km⟩
theorem sim_ticks (hR : RR σ μ) (a : Int32) : ∃ r σ' μ', j_X5_ticks σ a = some (r, σ') ∧ j_X6_ticks μ a = some (r, μ') ∧ RR σ' μ' := by
  unfold j_X5_ticks j_X6_ticks
  rcases wi a 0 100 (by decide) (by decide) with ⟨i, h1, h2, rfl, h4⟩ | ⟨h1, h2⟩
  · rw [show j_X6_within (nI i) 0 100 = some 1 from h4, dp_bd_some, i10, if_neg (show ¬ nI i < (0 : Int32) from nI_nlt (b := 0) (by omega) (by omega)), if_pos (show nI i ≤ (100 : Int32) from nI_le (b := 100) h2 (by decide))]
    obtain ⟨⟨rs, re⟩, ⟨qm, qe⟩, f1, f2, he, hR'⟩ := dp_rel (b1 := jb_X5_ticks_17 (nI i)) (b2 := jb_X6_ticks_17 (nI i))
      (fun j x y => x.2 = y.2 ∧ x.2.2 = nI j ∧ RR x.1 y.1) (fun r q => r.2 = q.2 ∧ RR r.1 q.1) i (by
      rintro j ⟨x, t, ix⟩ ⟨y, t', iy⟩ hj ⟨p1, p2, pR⟩
      simp only [Prod.mk.injEq] at p1 p2
      obtain ⟨rfl, rfl⟩ := p1
      subst p2
      dsimp only at pR
      unfold jb_X5_ticks_17 jb_X6_ticks_17
      dsimp only
      by_cases ce : j = i
      · subst ce
        exact Or.inr ⟨_, _, if_pos (nI_le (Nat.le_refl _) (by omega)), if_pos (nI_le (Nat.le_refl _) (by omega)), rfl, pR⟩
      obtain ⟨e, σ', μ', g1, g2, g3⟩ := pass_rel pR
      rw [if_neg (nI_ge (show j < i by omega) (by omega)), if_neg (nI_ge (show j < i by omega) (by omega)), g1, g2, dp_bd_some, dp_bd_some, nI_1]
      exact Or.inl ⟨_, _, rfl, rfl, by omega, rfl, rfl, g3⟩) dp_F 0 (σ, 0, 0) (μ, 0, 0) (Nat.zero_le _) (dp_F_lt (by omega) 0) ⟨rfl, rfl, hR⟩
    dsimp only at he hR'
    subst he
    rw [f1, f2, dp_bd_some, dp_bd_some]
    exact ⟨_, _, _, rfl, rfl, hR'⟩
  · rw [show j_X6_within a 0 100 = some 0 from h2, dp_bd_some, i00]
    rcases h1 with z | z
    · rw [if_pos (show a < 0 from z)]
      exact ⟨_, _, _, rfl, rfl, hR⟩
    · have y := up_lt (lo := 0) (by decide) (by decide) z
      rw [if_neg (show ¬ a < 0 from y.1), if_neg (show ¬ a ≤ 100 from y.2)]
      exact ⟨_, _, _, rfl, rfl, hR⟩
end TK
