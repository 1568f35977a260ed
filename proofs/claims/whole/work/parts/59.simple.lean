/-! ===== both sides: at, jump, about, scope, frame ===== -/
section LF
variable {h g : jH} {node wi sn code cm s past : Nat → Int} {n nw nd ns u D : Nat} {K : Int}
theorem IV.b4 (hI : IV h D node n nw nd wi sn ns code cm s past u K) : jI h (jP h 2 4) 4 = s 3 := by rw [hI.x.p4]; exact hI.rr.2.2.2.2.1
theorem IV.m3 (hI : IV h D node n nw nd wi sn ns code cm s past u K) : jX h (jP h 476 9) 3 = s 3 := by rw [hI.x.mk.p9, hI.es]
theorem IX.r13 (hI : IX h) : jS h (jP h 2 13) = (16, 12) := by rw [hI.p13]; exact hI.2.1.2.2.2.2.2.2.2.2.2
theorem IV.wok (hI : IV h D node n nw nd wi sn ns code cm s past u K) : ∀ t : Int, ∀ i, i < nw → jv (wv s t i) := fun t i hi => wv_v hI.dg.wn hI.si t (by have := hI.dg.2.1; omega)
theorem eX8_fillRow {d : Nat} {t : Int} (hI : IV h D node n nw nd wi sn ns code cm s past u K) :
    Ex MX8_fillRow (d + 3) [.inr 2, .inl t] h 0 0 (fun v g => v = none ∧ XF h g ∧ IV g D node n nw nd wi sn ns code cm s past u K ∧ ∀ i, i < n → jX g 397 i = nvs node code cm (wv s t) n i) := by
  have hx := hI.x
  obtain ⟨d1, d2, d3, d4⟩ := hI.dd
  obtain ⟨g1, g2, g3, g4, g5, g6, -⟩ := id hI.dg
  refine Ex_of_V tX8_fillRow (Nat.le_of_ble_eq_true rfl) ?_
  apply bX8_fillRow_0
  case e1 =>
    rw [hx.p4, hx.p13]
    refine Ex.mono (eX6_fillWires (n := n) hx.k50 hx.b50 hI.dg.wn g6 hI.si hI.rr (by rw [← hx.p13]; exact hx.r13) (by omega)) ?_
    rintro v g ⟨rfl, fr, hw⟩
    have xf : XF h g := (fr.fp (P := fun b => b = 397) (fun a h1 h2 => by omega)).xf (fun a ha => by unfold sc; omega)
    have hJ := hI.xf xf
    have hy := hJ.x
    obtain ⟨d1, d2, d3, d4⟩ := hJ.dd
    apply bX8_fillRow_12
    case e1 =>
      rw [hy.p13, d2]
      refine Ex.mono (eX2_complete (h := g) (w := wv s t) d3 d4 hJ.dr g1 g5 (hI.wok t) (by rw [← hy.p13]; exact hy.r13) (by omega) hw) ?_
      rintro v g2 ⟨rfl, fx, hv⟩
      have xf2 : XF g g2 := (fx.fp (P' := fun b => b = 397 ∨ b = D + 21) (fun a ha => ha)).xf (fun a ha => by unfold sc; omega)
      apply bX8_fillRow_23
      exact ⟨rfl, xf.trans xf2, hJ.xf xf2, hv⟩
    all_goals first
      | exact hy.s2
      | exact hJ.dk
  all_goals first
    | exact hx.s2
    | exact hI.rk
def oka (n : Nat) (s : Nat → Int) (a t : Int) : Prop := (0 ≤ a ∧ a < n) ∧ (0 ≤ t ∧ t ≤ s 0)
theorem eX8_at {d : Nat} {a t : Int} (hI : IV h D node n nw nd wi sn ns code cm s past u K) :
    Ex MX8_at (d + 4) [.inr 2, .inl a, .inl t] h 0 0 (fun v g => XF h g ∧ ∃ z, v = some (.inl z) ∧ QR (oka n s a t) (fun z => z = nvs node code cm (wv s t) n a.toNat) z) := by
  have hx := hI.x
  have hn12 := hI.dg.1
  refine Ex_of_V tX8_at (Nat.le_of_ble_eq_true rfl) ?_
  apply bX8_at_0
  case q1 => rw [hI.n0]; intro q; exact ⟨XF.rf, _, rfl, Or.inl ⟨fun z => q z.1, rfl⟩⟩
  case q2 => rw [hI.t0]; intro _ q; exact ⟨XF.rf, _, rfl, Or.inl ⟨fun z => q z.2, rfl⟩⟩
  case e1 =>
    rw [hI.n0, hI.t0]
    intro o1 o2
    refine Ex.mono (eX8_fillRow hI) ?_
    rintro v g ⟨rfl, xf, hJ, hv⟩
    have hy := hJ.x
    apply bX8_at_23
    case q1 => exact ⟨xf, _, rfl, Or.inr ⟨⟨o1, o2⟩, by rw [hy.p13]; exact hv a.toNat (by omega)⟩⟩
    all_goals first
      | exact hy.s2
      | (rw [hy.r13]; done)
      | omega
      | (rw [hy.r13]; refine Int.lt_of_le_of_lt (b := 11) ?_ (by decide); omega)
  all_goals first
    | exact hx.s2
    | exact hI.dk
    | exact hI.rk
theorem eX9_at {d : Nat} {a t : Int} (hI : IV h D node n nw nd wi sn ns code cm s past u K) :
    Ex MX9_at (d + 4) [.inr 476, .inl a, .inl t] h 0 0 (fun v g => XF h g ∧ ∃ z, v = some (.inl z) ∧ QR (oka n s a t) (fun z => z = nvs node code cm (wv s t) n a.toNat) z) := by
  have hM := hI.mk
  have hn12 := hI.dg.1
  refine Ex_of_V tX9_at (Nat.le_of_ble_eq_true rfl) ?_
  apply bX9_at_0
  case q1 => rw [hI.m1]; intro q; exact ⟨XF.rf, _, rfl, Or.inl ⟨fun z => q (by have := z.1; omega), rfl⟩⟩
  case q2 => rw [hI.m0]; intro _ q; exact ⟨XF.rf, _, rfl, Or.inl ⟨fun z => q z.2, rfl⟩⟩
  case e1 =>
    rw [hI.m1, hI.m0]
    intro o1 o2
    refine Ex.mono (eX9_lay hI) ?_
    rintro v g ⟨rfl, fx, xf, hv⟩
    have hM := (hI.xf xf).mk
    apply bX9_at_23
    case q1 => exact ⟨xf, _, rfl, Or.inr ⟨⟨by omega, o2⟩, by rw [hM.p36]; exact hv a.toNat (by omega)⟩⟩
    all_goals first
      | exact hM.x
      | (rw [hM.p36, hM.s493]; done)
      | omega
      | (rw [hM.p36, hM.s493]; refine Int.lt_of_le_of_lt (b := 11) ?_ (by decide); omega)
  all_goals first
    | exact hM.x
    | (rw [hM.p9, hM.s482]; done)
    | (rw [hI.m1]; omega)
theorem eX8_jump {d : Nat} {t : Int} (hI : IV h D node n nw nd wi sn ns code cm s past u K) :
    Ex MX8_jump (d + 1) [.inr 2, .inl t] h 0 0 (fun v g => XF h g ∧ ∃ z, v = some (.inl z) ∧ QR (0 ≤ t ∧ t ≤ s 0) (fun z => z = bat s t (s 3).toNat) z) := by
  have hx := hI.x
  refine Ex_of_V tX8_jump (Nat.le_of_ble_eq_true rfl) ?_
  apply bX8_jump_0
  case q1 => rw [hI.t0]; intro q; exact ⟨XF.rf, _, rfl, Or.inl ⟨q, rfl⟩⟩
  case e1 =>
    rw [hI.t0]
    intro o1
    rw [hx.p4]
    refine Ex.mono (eX6_blockAt hx.k50 hx.b50 hI.si hI.rr) ?_
    rintro v g ⟨rfl, rfl⟩
    show V MX8_jump (d + 1) 16 _ [.inl _] g 0 0 _
    apply bX8_jump_16
    exact ⟨XF.rf, _, rfl, Or.inr ⟨o1, rfl⟩⟩
  all_goals first
    | exact hx.s2
    | exact hI.rk
theorem eX9_jump {d : Nat} {t : Int} (hI : IV h D node n nw nd wi sn ns code cm s past u K) :
    Ex MX9_jump (d + 2) [.inr 476, .inl t] h 0 0 (fun v g => XF h g ∧ ∃ z, v = some (.inl z) ∧ QR (0 ≤ t ∧ t ≤ s 0) (fun z => z = bat s t (s 3).toNat) z) := by
  have hM := hI.mk
  refine Ex_of_V tX9_jump (Nat.le_of_ble_eq_true rfl) ?_
  apply bX9_jump_0
  case q1 => rw [hI.m0]; intro q; exact ⟨XF.rf, _, rfl, Or.inl ⟨q, rfl⟩⟩
  case e1 =>
    rw [hI.m0]
    intro o1
    refine Ex.mono (eX9_blockAt hM hI.es hI.si) ?_
    rintro v g ⟨rfl, rfl⟩
    show V MX9_jump (d + 2) 13 _ [.inl _] g 0 0 _
    apply bX9_jump_13
    exact ⟨XF.rf, _, rfl, Or.inr ⟨o1, rfl⟩⟩
  all_goals first
    | exact hM.x
    | (rw [hM.p9, hM.s482]; done)
def oks (ns : Nat) (k what : Int) : Prop := (0 ≤ k ∧ k < ns) ∧ (0 ≤ what ∧ what ≤ 1)
theorem jorn_tp {x : Int} (hx : x = -9 ∨ 0 ≤ x) : jorn (tp x) = x := by
  unfold jorn tp
  split <;> split <;> omega
theorem eX8_scope {d : Nat} {k what : Int} (hI : IV h D node n nw nd wi sn ns code cm s past u K) :
    Ex MX8_scope (d + 1) [.inr 2, .inl k, .inl what] h 0 0 (fun v g => XF h g ∧ ∃ z, v = some (.inl z) ∧ QR (oks ns k what) (fun z => z = if what = 0 then wi k.toNat else sn k.toNat) z) := by
  have hx := hI.x
  obtain ⟨d1, d2, d3, d4⟩ := hI.dd
  obtain ⟨e0, e1, e2, e3, e4, e5, e6, e7, e8, e9, e10, e11, e12, e13, e14, e15, e16, e17, e18, e19⟩ := id d3
  obtain ⟨r0, r1, r2, r3, r4, r5⟩ := id hI.dr
  obtain ⟨g1, g2, g3, g4, g5, g6, g7, -⟩ := id hI.dg
  have n3 : jI h (jP h 2 1) 3 = (ns : Int) := by rw [d2]; exact r3
  refine Ex_of_V tX8_scope (Nat.le_of_ble_eq_true rfl) ?_
  apply bX8_scope_0
  case q1 => intro q; exact ⟨XF.rf, _, rfl, Or.inl ⟨fun z => by have := z.1; omega, rfl⟩⟩
  case q2 =>
    rw [n3]
    intro q q2 q3
    refine ⟨XF.rf, _, rfl, Or.inr ⟨⟨by omega, by omega⟩, ?_⟩⟩
    rw [if_pos q3, d2, e5, (r5 k.toNat (by omega)).1]
    exact jorn_tp (by have := (g7 k.toNat (by omega)).1; omega)
  case q3 =>
    rw [n3]
    intro q q2 q3 q4
    refine ⟨XF.rf, _, rfl, Or.inr ⟨⟨by omega, by omega⟩, ?_⟩⟩
    rw [if_neg q3, d2, e6, (r5 k.toNat (by omega)).2]
  case q4 => intro _ _ q q2; exact ⟨XF.rf, _, rfl, Or.inl ⟨fun z => by have := z.2; omega, rfl⟩⟩
  case q5 => rw [n3]; intro _ q; exact ⟨XF.rf, _, rfl, Or.inl ⟨fun z => by have := z.1; omega, rfl⟩⟩
  all_goals first
    | exact hx.s2
    | exact hI.dk
    | (rw [d2, e5, e14]; done)
    | (rw [d2, e6, e15]; done)
    | (rw [n3]; intros; omega)
    | (intros; omega)
    | (rw [n3]; intros; rw [d2, e5, e14]; refine Int.lt_of_le_of_lt (b := 5) ?_ (by decide); omega)
    | (rw [n3]; intros; rw [d2, e6, e15]; refine Int.lt_of_le_of_lt (b := 5) ?_ (by decide); omega)
theorem eX9_scope {d : Nat} {k what : Int} (hI : IV h D node n nw nd wi sn ns code cm s past u K) :
    Ex MX9_scope (d + 1) [.inr 476, .inl k, .inl what] h 0 0 (fun v g => XF h g ∧ ∃ z, v = some (.inl z) ∧ QR (oks ns k what) (fun z => z = if what = 0 then wi k.toNat else sn k.toNat) z) := by
  have hM := hI.mk
  obtain ⟨m1, m2, m3, m4, m5, m6, m7, m8, m9⟩ := id hI.md
  obtain ⟨g1, g2, g3, g4, g5, g6, g7, -⟩ := id hI.dg
  refine Ex_of_V tX9_scope (Nat.le_of_ble_eq_true rfl) ?_
  apply bX9_scope_0
  case r1 => rw [m4]; exact ⟨by omega, by omega⟩
  case q1 => rw [m4]; intro q; exact ⟨XF.rf, _, rfl, Or.inl ⟨fun z => q (by have := z.1; omega), rfl⟩⟩
  case q2 => rw [m4]; intro q q2 q3; exact ⟨XF.rf, _, rfl, Or.inr ⟨⟨by omega, q2⟩, by rw [if_neg q3, hM.p5, m7]⟩⟩
  case q3 => rw [m4]; intro q q2 q3; exact ⟨XF.rf, _, rfl, Or.inr ⟨⟨by omega, q2⟩, by rw [if_pos q3, hM.p4, m6]⟩⟩
  case q4 => intro _ q; exact ⟨XF.rf, _, rfl, Or.inl ⟨fun z => q z.2, rfl⟩⟩
  all_goals first
    | exact hM.x
    | (rw [hM.p5, hM.s479]; done)
    | (rw [hM.p4, hM.s478]; done)
    | (rw [m4]; intros; omega)
    | (intros; omega)
    | (rw [m4]; intros; rw [hM.p5, hM.s479]; refine Int.lt_of_le_of_lt (b := 5) ?_ (by decide); omega)
    | (rw [m4]; intros; rw [hM.p4, hM.s478]; refine Int.lt_of_le_of_lt (b := 5) ?_ (by decide); omega)
end LF
