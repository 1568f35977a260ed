/-! ===== model: a value is given ===== -/
section LU
variable {h g : jH} {s z y : Nat → Int}
theorem jX_up {b i : Nat} {x : Int} : jX (jsX h b i x) b = up (jX h b) i x := by
  funext k
  rw [jX_sX]
  unfold up
  by_cases q : k = i
  · rw [if_pos ⟨rfl, q⟩, if_pos q]
  · rw [if_neg (fun y => q y.2), if_neg q]
theorem up_s {f : Nat → Int} {i : Nat} {x : Int} : up f i x i = x := if_pos rfl
theorem up_o {f : Nat → Int} {i j : Nat} {x : Int} (q : j ≠ i) : up f i x j = f j := if_neg q
def sgv (z : Nat → Int) (w : Nat) (v : Int) : Nat → Int := if z 1 = 1 then gch (up z (5 + w) v) w v else up z (5 + w) v
theorem gch_up {l m w : Nat} {v : Int} (e3 : y 3 = (l : Int) + 1) (em : y (11 + 33 * l + 2) = (m : Int)) :
    up (up (up (up y (11 + 33 * l + 9 + 3 * m) (y 0)) (11 + 33 * l + 9 + 3 * m + 1) (w : Int)) (11 + 33 * l + 9 + 3 * m + 2) v) (11 + 33 * l + 2) ((m : Int) + 1) = gch y w v := by
  funext k
  have hlo : lo y = 11 + 33 * l := by unfold lo; rw [e3]; omega
  unfold gch
  rw [hlo, em, Int.toNat_natCast]
  by_cases q4 : k = 11 + 33 * l + 2
  · subst q4
    rw [up_s, if_neg (by omega), if_neg (by omega), if_neg (by omega), if_pos rfl]
  · rw [up_o q4]
    by_cases q3 : k = 11 + 33 * l + 9 + 3 * m + 2
    · rw [q3, up_s, if_neg (by omega), if_neg (by omega), if_pos rfl]
    · rw [up_o q3]
      by_cases q2 : k = 11 + 33 * l + 9 + 3 * m + 1
      · rw [q2, up_s, if_neg (by omega), if_pos rfl]
      · rw [up_o q2]
        by_cases q1 : k = 11 + 33 * l + 9 + 3 * m
        · rw [q1, up_s, if_pos rfl]
        · rw [up_o q1, if_neg q1, if_neg q2, if_neg q3, if_neg q4]
theorem vX9_set95 {d w : Nat} {i1 v : Int} {u4 u5 : Option jA} {Q : Option jA → jH → Prop} (hM : MK h) (es : jX h 482 = z) (h1 : 1 ≤ z 3) (h6 : z 3 ≤ 6) (hw : w < 6) (hm0 : 0 ≤ z (lo z + 2)) (hm : z (lo z + 2) ≤ 8) (hm7 : z 1 = 1 → z (lo z + 2) ≤ 7)
    (hQ : ∀ g, FX (fun b => b = 482) h g → jX g 482 = sgv z w v → Q (some (.inl (z 1))) g) :
    V MX9_sets (d + 3) 95 [some (.inr 476), some (.inl i1), some (.inl v), some (.inl (w : Int)), u4, u5] [] h 0 0 Q := by
  obtain ⟨l, hl⟩ : ∃ l : Nat, z 3 = (l : Int) + 1 := ⟨(z 3 - 1).toNat, by omega⟩
  have hlo : lo z = 11 + 33 * l := by unfold lo; rw [hl]; omega
  rw [hlo] at hm0 hm hm7
  obtain ⟨m, em⟩ : ∃ m : Nat, z (11 + 33 * l + 2) = (m : Int) := ⟨_, (Int.toNat_of_nonneg hm0).symm⟩
  have t5 : (5 + (w : Int)).toNat = 5 + w := by omega
  have u0 : up z (5 + w) v 0 = z 0 := up_o (by omega)
  have u1 : up z (5 + w) v 1 = z 1 := up_o (by omega)
  have u3 : up z (5 + w) v 3 = (l : Int) + 1 := (up_o (by omega)).trans hl
  have u11 : up z (5 + w) v (11 + 33 * l + 2) = (m : Int) := (up_o (by omega)).trans em
  have t1 : (11 + 33 * ((l : Int) + 1 - 1) + 2).toNat = 11 + 33 * l + 2 := by omega
  have t2 : (11 + 33 * ((l : Int) + 1 - 1) + 9 + 3 * (m : Int)).toNat = 11 + 33 * l + 9 + 3 * m := by omega
  have t3 : (11 + 33 * ((l : Int) + 1 - 1) + 9 + 3 * (m : Int) + 1).toNat = 11 + 33 * l + 9 + 3 * m + 1 := by omega
  have t4 : (11 + 33 * ((l : Int) + 1 - 1) + 9 + 3 * (m : Int) + 2).toNat = 11 + 33 * l + 9 + 3 * m + 2 := by omega
  have un : ∀ x1 x2 x3 : Int, up (up (up (up z (5 + w) v) (11 + 33 * l + 9 + 3 * m) x1) (11 + 33 * l + 9 + 3 * m + 1) x2) (11 + 33 * l + 9 + 3 * m + 2) x3 (11 + 33 * l + 2) = (m : Int) := fun x1 x2 x3 => by
    rw [up_o (by omega), up_o (by omega), up_o (by omega), u11]
  have un1 : ∀ x1 x2 x3 x4 : Int, up (up (up (up (up z (5 + w) v) (11 + 33 * l + 9 + 3 * m) x1) (11 + 33 * l + 9 + 3 * m + 1) x2) (11 + 33 * l + 9 + 3 * m + 2) x3) (11 + 33 * l + 2) x4 1 = z 1 := fun x1 x2 x3 x4 => by
    rw [up_o (by omega), up_o (by omega), up_o (by omega), up_o (by omega), u1]
  have em' : z 1 = 1 → (m : Int) ≤ 7 := fun q => by have := hm7 q; omega
  apply bX9_sets_95
  case q1 =>
    simp only [hM.p9, jX_up, es, t5, u1]
    intro q
    refine hQ _ (FX.sX rfl) ?_
    rw [jX_up, es]
    unfold sgv
    rw [if_neg q]
  case q2 =>
    simp only [hM.p9, jX_up, es, t5, u0, u1, u3, u11, t1, t2, t3, t4, un, un1]
    intro q
    refine hQ _ (((((FX.sX (P := fun b => b = 482) rfl).trans (FX.sX rfl)).trans (FX.sX rfl)).trans (FX.sX rfl)).trans (FX.sX rfl)) ?_
    simp only [jX_up, es]
    unfold sgv
    rw [if_pos q, ← u0]
    exact gch_up u3 u11
  all_goals (try simp only [hM.p9, hM.s482, jX_up, es, t5, u0, u1, u3, u11, t1, t2, t3, t4, un])
  all_goals first
    | exact hM.x
    | done
    | (intros; exact ⟨by omega, by omega⟩)
    | (intros; omega)
    | exact ⟨by omega, by omega⟩
    | omega
end LU
section LUb
variable {h g : jH} {s z y : Nat → Int}
theorem bnw_g (h0 : 0 ≤ z 3) : bnw z 1 = z 1 ∧ bnw z (lo (bnw z) + 2) = 0 := by
  refine ⟨bnw_lo (by omega) (by omega), ?_⟩
  have el : lo (bnw z) = 11 + 33 * (z 3).toNat := by unfold lo; rw [bnw_3, Int.add_sub_cancel]
  rw [el]
  exact bnw_m
theorem bbg_f (h1 : 1 ≤ s 3) (h6 : s 3 ≤ 6) : bbg s 1 = s 1 ∧ 1 ≤ bbg s 3 ∧ bbg s 3 ≤ 6 ∧ bbg s (lo (bbg s) + 2) = 0 := by
  unfold bbg
  by_cases q : s 3 = 6
  · rw [if_pos q]
    have e3 : bsh s 3 = s 3 - 1 := if_pos rfl
    obtain ⟨a, b⟩ := bnw_g (z := bsh s) (by omega)
    exact ⟨a.trans (bsh_lo (by omega) (by omega) (by omega)), by rw [bnw_3]; omega, by rw [bnw_3]; omega, b⟩
  · rw [if_neg q]
    obtain ⟨a, b⟩ := bnw_g (z := s) (by omega)
    exact ⟨a, by rw [bnw_3]; omega, by rw [bnw_3]; omega, b⟩
theorem gv_1 {w : Nat} {v : Int} (h1 : 1 ≤ s 3) (h6 : s 3 ≤ 6) : gv s w v 1 = s 1 := by
  have hg : ∀ z : Nat → Int, gch z w v 1 = z 1 := fun z => by
    unfold gch
    have : 11 ≤ lo z := by unfold lo; omega
    rw [if_neg (by omega), if_neg (by omega), if_neg (by omega), if_neg (by omega)]
  unfold gv
  split
  · exact up_o (by omega)
  · rw [hg, up_o (by omega)]
    split
    · exact (bbg_f h1 h6).1
    · rfl
theorem vX9_set54 {d w : Nat} {i1 v : Int} {u4 u5 : Option jA} {Q : Option jA → jH → Prop} (hM : MK h) (es : jX h 482 = s) (o1 : s 1 = 0 ∨ s 1 = 1) (o2 : s 2 ≤ 8) (h1 : 1 ≤ s 3) (h6 : s 3 ≤ 6) (h4 : 0 ≤ s 4) (h4b : s 4 ≤ 99999) (hw : w < 6) (hm0 : 0 ≤ s (lo s + 2)) (hm : s (lo s + 2) ≤ 8)
    (hQ : ∀ g, FX (fun b => b = 482) h g → jX g 482 = gv s w v → Q (some (.inl (s 1))) g) :
    V MX9_sets (d + 3) 54 [some (.inr 476), some (.inl i1), some (.inl v), some (.inl (w : Int)), u4, u5] [] h 0 0 Q := by
  obtain ⟨l, hl⟩ : ∃ l : Nat, s 3 = (l : Int) + 1 := ⟨(s 3 - 1).toNat, by omega⟩
  have hlo : lo s = 11 + 33 * l := by unfold lo; rw [hl]; omega
  have hm0' := hm0
  have hm' := hm
  rw [hlo] at hm0 hm
  obtain ⟨m, em⟩ : ∃ m : Nat, s (11 + 33 * l + 2) = (m : Int) := ⟨_, (Int.toNat_of_nonneg hm0).symm⟩
  have t5 : (5 + (w : Int)).toNat = 5 + w := by omega
  have u0 : up s (5 + w) v 0 = s 0 := up_o (by omega)
  have u1 : up s (5 + w) v 1 = s 1 := up_o (by omega)
  have u3 : up s (5 + w) v 3 = (l : Int) + 1 := (up_o (by omega)).trans hl
  have u11 : up s (5 + w) v (11 + 33 * l + 2) = (m : Int) := (up_o (by omega)).trans em
  have t1 : (11 + 33 * ((l : Int) + 1 - 1) + 2).toNat = 11 + 33 * l + 2 := by omega
  have t2 : (11 + 33 * ((l : Int) + 1 - 1) + 9 + 3 * (m : Int)).toNat = 11 + 33 * l + 9 + 3 * m := by omega
  have t3 : (11 + 33 * ((l : Int) + 1 - 1) + 9 + 3 * (m : Int) + 1).toNat = 11 + 33 * l + 9 + 3 * m + 1 := by omega
  have t4 : (11 + 33 * ((l : Int) + 1 - 1) + 9 + 3 * (m : Int) + 2).toNat = 11 + 33 * l + 9 + 3 * m + 2 := by omega
  have un : ∀ x1 x2 x3 : Int, up (up (up (up s (5 + w) v) (11 + 33 * l + 9 + 3 * m) x1) (11 + 33 * l + 9 + 3 * m + 1) x2) (11 + 33 * l + 9 + 3 * m + 2) x3 (11 + 33 * l + 2) = (m : Int) := fun x1 x2 x3 => by
    rw [up_o (by omega), up_o (by omega), up_o (by omega), u11]
  have un1 : ∀ x1 x2 x3 x4 : Int, up (up (up (up (up s (5 + w) v) (11 + 33 * l + 9 + 3 * m) x1) (11 + 33 * l + 9 + 3 * m + 1) x2) (11 + 33 * l + 9 + 3 * m + 2) x3) (11 + 33 * l + 2) x4 1 = s 1 := fun x1 x2 x3 x4 => by
    rw [up_o (by omega), up_o (by omega), up_o (by omega), up_o (by omega), u1]
  apply bX9_sets_54
  case q1 =>
    simp only [hM.p9, jX_up, es, t5, u1]
    intro q _
    refine hQ _ (FX.sX rfl) ?_
    rw [jX_up, es]
    unfold gv
    rw [if_pos (by omega)]
  case q4 =>
    simp only [hM.p9, jX_up, es, hl, em, t5, u0, u1, u3, u11, t1, t2, t3, t4, un, un1]
    intro q q2 _
    refine hQ _ (((((FX.sX (P := fun b => b = 482) rfl).trans (FX.sX rfl)).trans (FX.sX rfl)).trans (FX.sX rfl)).trans (FX.sX rfl)) ?_
    simp only [jX_up, es]
    unfold gv
    rw [if_neg (by omega), hlo, em, if_neg (by omega), ← u0]
    exact gch_up u3 u11
  case e1 =>
    simp only [hM.p9, es, hl, em, t1]
    intro q q2
    refine Ex.mono (eX9_blockBegins hM es (by omega) h6 h4 h4b) ?_
    rintro r g ⟨rfl, fx, e⟩
    obtain ⟨b1, b3, b6, bm⟩ := bbg_f h1 h6
    refine vX9_set95 (hM.fr fx.2.1 fx.2.2.2.1) e b3 b6 hw (by rw [bm]; decide) (by rw [bm]; decide) (fun _ => by rw [bm]; decide) ?_
    intro g2 fx2 e2
    rw [b1]
    refine hQ g2 (fx.trans fx2) (e2.trans ?_)
    unfold sgv gv
    rw [if_pos (by omega), if_neg (by omega), hlo, em, if_pos (by omega)]
  all_goals (try simp only [hM.p9, hM.s482, jX_up, es, hl, em, t5, u0, u1, u3, u11, t1, t2, t3, t4, un])
  all_goals first
    | exact hM.x
    | done
    | (intro q q2; exact absurd q2 q)
    | (intro q _ q2; exact absurd q q2)
    | (intros; exact ⟨by omega, by omega⟩)
    | (intros; omega)
    | exact ⟨by omega, by omega⟩
    | omega
end LUb
