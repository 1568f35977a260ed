/-! ===== frames by a set of cells ===== -/
section KT
variable {h g : jH} {node wi sn code cm s past : Nat → Int} {n nw nd ns : Nat} {K : Int} {P P' : Nat → Prop}
def FP (P : Nat → Prop) (h g : jH) : Prop := jP g = jP h ∧ jS g = jS h ∧ jN g = jN h ∧ ∀ a, ¬ P a → jI g a = jI h a ∧ jX g a = jX h a ∧ jY g a = jY h a
theorem FP.rf : FP P h h := ⟨rfl, rfl, rfl, fun _ _ => ⟨rfl, rfl, rfl⟩⟩
theorem FP.trans {k : jH} (h1 : FP P h g) (h2 : FP P g k) : FP P h k :=
  ⟨h2.1.trans h1.1, h2.2.1.trans h1.2.1, h2.2.2.1.trans h1.2.2.1, fun a ha => ⟨(h2.2.2.2 a ha).1.trans (h1.2.2.2 a ha).1, (h2.2.2.2 a ha).2.1.trans (h1.2.2.2 a ha).2.1, (h2.2.2.2 a ha).2.2.trans (h1.2.2.2 a ha).2.2⟩⟩
theorem FP.wide (h1 : FP P h g) (hp : ∀ a, P a → P' a) : FP P' h g := ⟨h1.1, h1.2.1, h1.2.2.1, fun a ha => h1.2.2.2 a (fun z => ha (hp a z))⟩
theorem Fr.fp {lo hi : Nat} (h1 : Fr lo hi h g) (hp : ∀ a, lo ≤ a → a < hi → P a) : FP P h g :=
  ⟨h1.1, h1.2.1, h1.2.2.1, fun a ha => h1.2.2.2 a (by
    by_cases q : lo ≤ a ∧ a < hi
    · exact absurd (hp a q.1 q.2) ha
    · omega)⟩
theorem FX.fp (h1 : FX P h g) (hp : ∀ a, P a → P' a) : FP P' h g :=
  ⟨h1.2.1, h1.2.2.2.1, h1.2.2.2.2.1, fun a ha => ⟨by rw [h1.1], h1.2.2.2.2.2 a (fun z => ha (hp a z)), by rw [h1.2.2.1]⟩⟩
theorem BRep.fp {B o : Nat} (hB : BRep h B s node n o) (hF : FP P h g) (hd : ∀ a, B ≤ a → a < B + 6 → ¬ P a) : BRep g B s node n o := by
  obtain ⟨-, -, -, hF⟩ := hF
  exact hB.eq (hF B (hd _ (by omega) (by omega))).1 (hF (B + 2) (hd _ (by omega) (by omega))).1 (hF (B + 1) (hd _ (by omega) (by omega))).2.1 (hF (B + 3) (hd _ (by omega) (by omega))).2.1 (hF (B + 4) (hd _ (by omega) (by omega))).2.1 (hF (B + 5) (hd _ (by omega) (by omega))).2.1
theorem RB.fp {r : Nat} (hB : RB h r) (hF : FP P h g) (hd : ¬ P (r + 1)) : RB g r := by
  have e := (hF.2.2.2 (r + 1) hd).2.2
  unfold RB at *
  rw [e]
  exact hB
theorem RecRep.fp {r : Nat} (hR : RecRep h r s node n) (hB : RB h r) (h6 : s 3 ≤ 6) (hF : FP P h g) (hd : ∀ a, r ≤ a → a < r + 39 → ¬ P a) : RecRep g r s node n := by
  obtain ⟨e0, e1, e2, e3, e4, e5, e6⟩ := hR
  have f0 := (hF.2.2.2 r (hd _ (by omega) (by omega))).1
  have f1 := (hF.2.2.2 (r + 1) (hd _ (by omega) (by omega))).2.2
  have f2 := (hF.2.2.2 (r + 2) (hd _ (by omega) (by omega))).2.1
  refine ⟨by rw [f0]; exact e0, by rw [f0]; exact e1, by rw [f0]; exact e2, by rw [f0]; exact e3, by rw [f0]; exact e4, by rw [f2]; exact e5, fun i hi => ?_⟩
  rw [f1]
  obtain ⟨j, hj, ej⟩ := hB.1 i (by omega)
  have hb := e6 i hi
  rw [ej] at hb ⊢
  exact hb.fp hF (fun a h1 h2 => hd a (by omega) (by omega))
theorem PRep.fp {u : Nat} (hR : PRep h past u node n K) (hO : PO h) (hF : FP P h g) (hd : ∀ a, 89 ≤ a → a < 325 → ¬ P a) : PRep g past u node n K := by
  obtain ⟨r0, r1, r2⟩ := hR
  obtain ⟨o1, o2, o3, o4, o5, o6⟩ := hO
  refine ⟨by rw [(hF.2.2.2 89 (hd _ (by omega) (by omega))).1]; exact r0, r1, fun i hi => ?_⟩
  obtain ⟨q1, q2⟩ := r2 i hi
  rw [(hF.2.2.2 90 (hd _ (by omega) (by omega))).2.2]
  obtain ⟨j, hj, ej⟩ := o4 i (by omega)
  rw [ej] at q1 ⊢
  exact ⟨q1.fp (o6 j hj).2 q2.2.2.2.2.2.2.1 hF (fun a h1 h2 => hd a (by omega) (by omega)), q2⟩
theorem PO.fp (hO : PO h) (hF : FP P h g) (hd : ∀ a, 89 ≤ a → a < 325 → ¬ P a) : PO g := by
  obtain ⟨o1, o2, o3, o4, o5, o6⟩ := hO
  have e := (hF.2.2.2 90 (hd _ (by omega) (by omega))).2.2
  refine ⟨by rw [hF.2.1]; exact o1, by rw [hF.1]; exact o2, by rw [hF.2.1]; exact o3, by rw [e]; exact o4, by rw [e]; exact o5, fun j hj => ⟨(o6 j hj).1.fr hF.1 hF.2.1, (o6 j hj).2.fp hF (hd _ (by omega) (by omega))⟩⟩
theorem DK.fp {D : Nat} (hD : DK h D) (h1 : FP P h g) : DK g D := by
  unfold DK
  rw [h1.1, h1.2.1]
  exact hD
theorem DY.fp {D : Nat} (hD : DY h D) (h1 : FP P h g) (hd : ¬ P (D + 7)) : DY g D := by
  unfold DY
  rw [(h1.2.2.2 _ hd).2.2]
  exact hD
theorem DRep.fp {D : Nat} (hR : DRep h D node n nw nd wi sn ns code cm) (h1 : FP P h g) (hn : n ≤ 12) (hp : ∀ a, D ≤ a → a < D + 21 → ¬ P a) : DRep g D node n nw nd wi sn ns code cm := by
  obtain ⟨r0, r1, r2, r3, r4, r5⟩ := hR
  have e : ∀ i, i < 21 → jX g (D + i) = jX h (D + i) := fun i hi => (h1.2.2.2 _ (hp _ (by omega) (by omega))).2.1
  have e0 := (h1.2.2.2 D (hp _ (by omega) (by omega))).1
  refine ⟨by rw [e0]; exact r0, by rw [e0]; exact r1, by rw [e0]; exact r2, by rw [e0]; exact r3, fun k hk => ?_, fun k hk => by rw [e 5 (by omega), e 6 (by omega)]; exact r5 k hk⟩
  have e8 := e (8 + k) (by omega)
  rw [← Nat.add_assoc] at e8
  unfold NRep
  rw [e 1 (by omega), e 2 (by omega), e 3 (by omega), e 4 (by omega), e 20 (by omega), e8]
  exact r4 k hk
theorem MD.fp (hD : MD h node n nw nd wi sn ns code cm) (h1 : FP P h g) (hp : ∀ a, 476 ≤ a → a < 482 → ¬ P a) : MD g node n nw nd wi sn ns code cm := by
  have e : ∀ i, 477 ≤ i → i < 482 → jX g i = jX h i := fun i h0 h2 => (h1.2.2.2 i (hp _ (by omega) (by omega))).2.1
  unfold MD
  rw [(h1.2.2.2 476 (hp _ (by omega) (by omega))).1, e 477 (by omega) (by omega), e 478 (by omega) (by omega), e 479 (by omega) (by omega), e 480 (by omega) (by omega), e 481 (by omega) (by omega)]
  exact hD
theorem HK.fp (hD : HK h) (h1 : FP P h g) : HK g := by
  unfold HK
  rw [h1.1, h1.2.1]
  exact hD
theorem HY.fp (hD : HY h) (h1 : FP P h g) (hd : ¬ P 331) : HY g := by
  unfold HY
  rw [(h1.2.2.2 _ hd).2.2]
  exact hD
theorem MS.fp {L : Int} {S : Int → Prop} {c : Nat} (hm : MS h L S c) (h1 : FP P h g) (h0 : ¬ P 329) (h2 : ¬ P 330) : MS g L S c := by
  unfold MS
  rw [(h1.2.2.2 _ h0).1, (h1.2.2.2 _ h2).2.1]
  exact hm
end KT
