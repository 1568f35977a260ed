/-! ===== both sides: about, frame ===== -/
section LG
variable {h g : jH} {node wi sn code cm s past : Nat → Int} {n nw nd ns u D : Nat} {K : Int}
def okw (n : Nat) (a what : Int) : Prop := (0 ≤ a ∧ a < n) ∧ (0 ≤ what ∧ what ≤ 5)
def abv (node code cm s : Nat → Int) (n : Nat) (a what : Int) : Int := if what = 5 then nvs node code cm (fun i => s (5 + i)) n a.toNat else node (6 * a.toNat + what.toNat)
theorem IV.vok (hI : IV h D node n nw nd wi sn ns code cm s past u K) : ∀ i, i < nw → jv ((fun i => s (5 + i)) i) := fun i hi => by
  have h6 := hI.dg.2.1
  obtain ⟨i0, i1, i2, i3, i4, i5, i6, i7, i8, i9, i10⟩ := hI.si
  exact Or.inr (i9 i (by omega))
theorem abv_ne {a what : Int} (k : Nat) (hw : what = (k : Int)) (h5 : what ≠ 5) : abv node code cm s n a what = node (6 * a.toNat + k) := by
  unfold abv
  rw [if_neg h5, hw, Int.toNat_natCast]
theorem eX8_about {d : Nat} {a what : Int} (hI : IV h D node n nw nd wi sn ns code cm s past u K) :
    Ex MX8_about (d + 3) [.inr 2, .inl a, .inl what] h 0 0 (fun v g => XF h g ∧ ∃ z, v = some (.inl z) ∧ QR (okw n a what) (fun z => z = abv node code cm s n a what) z) := by
  have hx := hI.x
  obtain ⟨d1, d2, d3, d4⟩ := hI.dd
  obtain ⟨e0, e1, e2, e3, e4, e5, e6, e7, e8, e9, e10, e11, e12, e13, e14, e15, e16, e17, e18, e19⟩ := id d3
  obtain ⟨r0, r1, r2, r3, r4, r5⟩ := id hI.dr
  obtain ⟨g1, g2, g3, g4, g5, g6, g7, -⟩ := id hI.dg
  obtain ⟨a1, a2, a3, a4, a5, a6⟩ := id hx.k50
  refine Ex_of_V tX8_about (Nat.le_of_ble_eq_true rfl) ?_
  apply bX8_about_0
  case q5 => rw [hI.n0]; intro q; exact ⟨XF.rf, _, rfl, Or.inl ⟨fun z => q z.1, rfl⟩⟩
  case q4 => intro _ q0 q1 q2 q3 q4 q5; exact ⟨XF.rf, _, rfl, Or.inl ⟨fun z => by have := z.2; omega, rfl⟩⟩
  case q1 =>
    rw [hI.n0]
    intro o q
    refine ⟨XF.rf, _, rfl, Or.inr ⟨⟨o, by omega⟩, ?_⟩⟩
    rw [abv_ne 0 q (by omega), d2, e1]
    exact (r4 a.toNat (by omega)).1
  case k1 =>
    rw [hI.n0, d2, e1]
    intro o _ q q2
    apply bX8_about_84
    refine ⟨XF.rf, _, rfl, Or.inr ⟨⟨o, by omega⟩, ?_⟩⟩
    rw [(r4 a.toNat (by omega)).1] at q2
    rw [abv_ne 1 q (by omega)]
    have := (g5 a.toNat (by omega)).1
    omega
  case k2 =>
    rw [hI.n0, d2, e1]
    intro o _ q q2
    apply bX8_about_84
    refine ⟨XF.rf, _, rfl, Or.inr ⟨⟨o, by omega⟩, ?_⟩⟩
    rw [(r4 a.toNat (by omega)).1] at q2
    rw [abv_ne 1 q (by omega), e2]
    exact (r4 a.toNat (by omega)).2.2.2.1 q2
  case k3 =>
    rw [hI.n0, d2, e1]
    intro o _ _ q q2
    apply bX8_about_112
    refine ⟨XF.rf, _, rfl, Or.inr ⟨⟨o, by omega⟩, ?_⟩⟩
    rw [(r4 a.toNat (by omega)).1] at q2
    rw [abv_ne 2 q (by omega)]
    have := (g5 a.toNat (by omega)).1
    omega
  case k4 =>
    rw [hI.n0, d2, e1]
    intro o _ _ q q2
    apply bX8_about_112
    refine ⟨XF.rf, _, rfl, Or.inr ⟨⟨o, by omega⟩, ?_⟩⟩
    rw [(r4 a.toNat (by omega)).1] at q2
    rw [abv_ne 2 q (by omega), e2]
    exact (r4 a.toNat (by omega)).2.2.2.2.1 q2
  case q2 =>
    rw [hI.n0]
    intro o _ _ _ q
    refine ⟨XF.rf, _, rfl, Or.inr ⟨⟨o, by omega⟩, ?_⟩⟩
    rw [abv_ne 3 q (by omega), d2, e3, (r4 a.toNat (by omega)).2.1]
    exact jorn_tp (by have := (g5 a.toNat (by omega)).2.1; omega)
  case q3 =>
    rw [hI.n0]
    intro o _ _ _ _ q
    refine ⟨XF.rf, _, rfl, Or.inr ⟨⟨o, by omega⟩, ?_⟩⟩
    rw [abv_ne 4 q (by omega), d2, e4]
    exact (r4 a.toNat (by omega)).2.2.1
  case e1 =>
    rw [hI.n0]
    intro o _ _ _ _ _ q
    rw [hx.p4, hx.p13, a3, d2]
    have fr : Fr 397 398 h (jcpy h 52 0 397 0 12) := Fr.cpy (by omega) (by omega)
    have xf : XF h (jcpy h 52 0 397 0 12) := (fr.fp (P := fun b => b = 397) (fun a h1 h2 => by omega)).xf (fun a ha => by unfold sc; omega)
    have hJ := hI.xf xf
    have hy := hJ.x
    obtain ⟨d1, d2, d3, d4⟩ := hJ.dd
    refine Ex.mono (eX2_complete (h := jcpy h 52 0 397 0 12) (w := fun i => s (5 + i)) d3 d4 hJ.dr g1 g5 hI.vok (by rw [← hy.p13]; exact hy.r13) (by omega) (fun k hk hw => ?_)) ?_
    · rw [jX_cpy, if_pos ⟨rfl, by omega, by omega⟩, show 0 + (k - 0) = k by omega]
      exact hI.rr.2.2.2.2.2.1 k hk hw
    · rintro v g2 ⟨rfl, fx, hv⟩
      have xf2 : XF (jcpy h 52 0 397 0 12) g2 := (fx.fp (P' := fun b => b = 397 ∨ b = D + 21) (fun a ha => ha)).xf (fun a ha => by unfold sc; omega)
      have hz := (hJ.xf xf2).x
      apply bX8_about_165
      case q1 =>
        refine ⟨xf.trans xf2, _, rfl, Or.inr ⟨⟨o, by omega⟩, ?_⟩⟩
        rw [hz.p13]
        unfold abv
        rw [if_pos q]
        exact hv a.toNat (by omega)
      all_goals first
        | exact hz.s2
        | (rw [hz.r13]; done)
        | omega
        | (rw [hz.r13]; refine Int.lt_of_le_of_lt (b := 11) ?_ (by decide); omega)
  all_goals first
    | exact hx.s2
    | exact hI.dk
    | exact hI.rk
    | (rw [d2, e1, e10]; done)
    | (rw [d2, e2, e11]; done)
    | (rw [d2, e3, e12]; done)
    | (rw [d2, e4, e13]; done)
    | (rw [hx.r13]; done)
    | (rw [hx.p4, a3, a5]; done)
    | (rw [hI.n0]; intros; omega)
    | (rw [hI.n0]; intros; rw [d2, e1, e10]; refine Int.lt_of_le_of_lt (b := 11) ?_ (by decide); omega)
    | (rw [hI.n0]; intros; rw [d2, e2, e11]; refine Int.lt_of_le_of_lt (b := 11) ?_ (by decide); omega)
    | (rw [hI.n0]; intros; rw [d2, e3, e12]; refine Int.lt_of_le_of_lt (b := 11) ?_ (by decide); omega)
    | (rw [hI.n0]; intros; rw [d2, e4, e13]; refine Int.lt_of_le_of_lt (b := 11) ?_ (by decide); omega)
    | (intros; rw [hx.r13]; decide)
    | (intros; rw [hx.p4, a3, a5]; decide)
theorem eX9_about {d : Nat} {a what : Int} (hI : IV h D node n nw nd wi sn ns code cm s past u K) :
    Ex MX9_about (d + 3) [.inr 476, .inl a, .inl what] h 0 0 (fun v g => XF h g ∧ ∃ z, v = some (.inl z) ∧ QR (okw n a what) (fun z => z = abv node code cm s n a what) z) := by
  have hM := hI.mk
  obtain ⟨m1, m2, m3, m4, m5, m6, m7, m8, m9⟩ := id hI.md
  obtain ⟨g1, g2, g3, g4, g5, g6, g7, -⟩ := id hI.dg
  refine Ex_of_V tX9_about (Nat.le_of_ble_eq_true rfl) ?_
  apply bX9_about_0
  case q1 => rw [hI.m1]; intro q; exact ⟨XF.rf, _, rfl, Or.inl ⟨fun z => q (by have := z.1; omega), rfl⟩⟩
  case q3 => intro _ q; exact ⟨XF.rf, _, rfl, Or.inl ⟨fun z => q z.2, rfl⟩⟩
  case q2 =>
    rw [hI.m1]
    intro o1 o2 q
    refine ⟨XF.rf, _, rfl, Or.inr ⟨⟨by omega, o2⟩, ?_⟩⟩
    rw [abv_ne what.toNat (by omega) q, hM.p0, m5, show (6 * a + what).toNat = 6 * a.toNat + what.toNat by omega]
  case k1 =>
    rw [hI.m1]
    intro o1 o2 q
    have key : ∀ (m w : Nat) (g : jH), w + m = 6 → FX (fun b => b = 495) h g → (∀ i, i < w → jX g 495 i = s (5 + i)) → V MX9_about (d + 3) 26 [some (.inr 476), some (.inl a), some (.inl what), some (.inl (w : Int))] [] g 0 0 (fun v g => XF h g ∧ ∃ z, v = some (.inl z) ∧ QR (okw n a what) (fun z => z = abv node code cm s n a what) z) := by
      intro m
      induction m with
      | zero =>
        intro w g hw fx hv
        obtain rfl : w = 6 := by omega
        have xf : XF h g := (fx.fp (P' := fun b => b = 495) (fun a ha => ha)).xf (fun a ha => by unfold sc; omega)
        have hJ := hI.xf xf
        have hM2 := hJ.mk
        apply bX9_about_26
        case e1 =>
          intro _
          refine Ex.mono (eX9_laysNodes (h := g) (w := fun i => s (5 + i)) hM2 hJ.md g1 g2 g3 g5 hI.vok (fun i hi => hv i (by omega))) ?_
          rintro v g2 ⟨rfl, fx2, hl⟩
          have xf2 : XF g g2 := (fx2.fp (P' := fun b => b = 493 ∨ b = 494) (fun a ha => ha)).xf (fun a ha => by unfold sc; omega)
          have hM3 := (hJ.xf xf2).mk
          apply bX9_about_56
          case q1 =>
            refine ⟨xf.trans xf2, _, rfl, Or.inr ⟨⟨by omega, o2⟩, ?_⟩⟩
            rw [hM3.p36]
            unfold abv
            rw [if_pos q]
            exact hl a.toNat (by omega)
          all_goals first
            | exact hM3.x
            | (rw [hM3.p36, hM3.s493]; done)
            | omega
            | (rw [hM3.p36, hM3.s493]; refine Int.lt_of_le_of_lt (b := 11) ?_ (by decide); omega)
        all_goals first
          | exact hM2.x
          | (rw [hM2.p9, hM2.s482]; done)
          | (rw [hM2.p38, hM2.s495]; done)
          | (intro q; exact absurd (by decide) q)
      | succ m ih =>
        intro w g hw fx hv
        have hM2 : MK g := hM.fr fx.2.1 fx.2.2.2.1
        apply bX9_about_26
        case e1 => intro q; omega
        case k1 =>
          intro _
          rw [hM2.p9, hM2.p38, fx.2.2.2.2.2 482 (by omega), hI.es, Int.toNat_natCast, show (5 + (w : Int)).toNat = 5 + w by omega, show (w : Int) + 1 = ((w + 1 : Nat) : Int) by omega]
          refine ih (w + 1) _ (by omega) (fx.trans (FX.sX rfl)) (fun i hi => ?_)
          rw [jX_sX]
          by_cases y : i = w
          · rw [if_pos ⟨rfl, y⟩, y]
          · rw [if_neg (fun z => y z.2)]; exact hv i (by omega)
        all_goals first
          | exact hM2.x
          | (rw [hM2.p9, hM2.s482]; done)
          | (rw [hM2.p38, hM2.s495]; done)
          | (intros; exact ⟨by omega, by omega⟩)
          | (intros; omega)
          | (intros; rw [hM2.p9, hM2.s482]; refine Int.lt_of_le_of_lt (b := 208) ?_ (by decide); omega)
          | (intros; rw [hM2.p38, hM2.s495]; refine Int.lt_of_le_of_lt (b := 5) ?_ (by decide); omega)
    have h9 := key 6 0 h (by omega) FX.rf (fun i hi => absurd hi (Nat.not_lt_zero _))
    exact h9
  all_goals first
    | exact hM.x
    | (rw [hM.p0, hM.s477]; done)
    | (rw [hI.m1]; omega)
end LG
