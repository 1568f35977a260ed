/-! ===== the invariant, put together again behind an update ===== -/
section LM
variable {h g : jH} {node wi sn code cm s past s' past' : Nat → Int} {n nw nd ns u u' D : Nat} {K K' : Int}
def uP (a : Nat) : Prop := (50 ≤ a ∧ a < 325) ∨ a = 476 ∨ a = 482 ∨ a = 483
theorem IX.upd (hI : IX h) (h1 : FP uP h g) (hO : PO g) (hB : RB g 50) : IX g := by
  obtain ⟨x1, x2, x3, x4, x5, x6, x7, x8, x9, x10, x11, x12, x13, x14, x15, x16, x17, x18⟩ := hI
  refine ⟨?_, ?_, ?_, x4.fp h1, x5.fp h1 (by unfold uP; omega), x6.fr h1.1 h1.2.1, x7.fr h1.1 h1.2.1, x8.fr h1.1 h1.2.1, x9.fp h1, x10.fp h1, x11.fp h1 (by unfold uP; omega), x12.fp h1 (by unfold uP; omega), hO, hB, x15.fp h1 (by unfold uP; omega), x16.fp h1 (by unfold uP; omega), ?_, x18.fr h1.1 h1.2.1⟩
  · rw [h1.1, h1.2.1]; exact x1
  · rw [h1.1, h1.2.1]; exact x2
  · rw [h1.1, h1.2.1]; exact x3
  · rw [(h1.2.2.2 325 (by unfold uP; omega)).2.2]; exact x17
theorem IV.upd (hI : IV h D node n nw nd wi sn ns code cm s past u K) (f : FP uP h g) (hm : ∀ j, j ≠ 11 → jI g 476 j = jI h 476 j) (hO : PO g) (hB : RB g 50) (hrr : RecRep g 50 s' node n) (es : jX g 482 = s') (hsi : SI s' node n K') (hpr : PRep g past' u' node n K') (ep : jX g 483 = past') (eu : jI g 476 11 = (u' : Int)) (hK : K ≤ K') : IV g D node n nw nd wi sn ns code cm s' past' u' K' := by
  obtain ⟨v1, ⟨v2, v3, v4, v5⟩, ⟨v6, v7, v8⟩, ⟨v9, v10, v11⟩, v12, v13, v14, v15⟩ := hI
  have e : ∀ a, ¬ uP a → jX g a = jX h a := fun a ha => (f.2.2.2 a ha).2.1
  obtain ⟨x1, x2, x3, x4, x5, x6, x7, x8, x9, x10, x11, x12, x13, x14, x15, x16, x17, x18⟩ := id v1
  refine ⟨v1.upd f hO hB, ⟨by rw [f.1]; exact v2, v3.fp f v5.1 (fun a h2 h3 => by unfold uP; omega), ?_, v5⟩, ⟨hrr, es, hsi⟩, ⟨hpr, ep, eu⟩, ?_, ?_, ?_, ?_⟩
  · obtain ⟨m1, m2, m3, m4, m5⟩ := v4
    refine ⟨by rw [hm 1 (by omega)]; exact m1, by rw [hm 2 (by omega)]; exact m2, by rw [hm 3 (by omega)]; exact m3, by rw [hm 6 (by omega)]; exact m4, ?_⟩
    rw [e 477 (by unfold uP; omega), e 478 (by unfold uP; omega), e 479 (by unfold uP; omega), e 480 (by unfold uP; omega), e 481 (by unfold uP; omega)]
    exact m5
  · obtain ⟨y1, y2, y3⟩ := v12
    refine IK.grow (K := K) ?_ hK
    unfold IK
    rw [e 326 (by unfold uP; omega), e 485 (by unfold uP; omega), e 484 (by unfold uP; omega)]
    exact ⟨y1, y2, fun z => ⟨(y3 z).1.fp x15 (y3 z).2.2.2.2.2.2.2.1 f (fun a h2 h3 => by unfold uP; omega), (y3 z).2⟩⟩
  · obtain ⟨y1, y2, y3⟩ := v13
    refine IK.grow (K := K) ?_ hK
    unfold IK
    rw [e 326 (by unfold uP; omega), e 485 (by unfold uP; omega), e 484 (by unfold uP; omega)]
    exact ⟨y1, y2, fun z => ⟨(y3 z).1.fp x16 (y3 z).2.2.2.2.2.2.2.1 f (fun a h2 h3 => by unfold uP; omega), (y3 z).2⟩⟩
  · unfold IO
    rw [e 327 (by unfold uP; omega), e 328 (by unfold uP; omega), e 503 (by unfold uP; omega), hm 49 (by omega), (f.2.2.2 2 (by unfold uP; omega)).1]
    exact v14
  · unfold IT
    rw [e 4 (by unfold uP; omega), e 486 (by unfold uP; omega), hm 15 (by omega), (f.2.2.2 3 (by unfold uP; omega)).1]
    exact v15
theorem IX.p89 (hI : IX h) : PO h := hI.2.2.2.2.2.2.2.2.2.2.2.2.1
end LM
