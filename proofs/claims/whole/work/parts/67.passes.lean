/-! ===== both sides: passes ===== -/
section LN
variable {h g : jH} {node wi sn code cm s past s' past' : Nat → Int} {n nw nd ns u u' D : Nat} {K K' : Int}
theorem IV.u6 (hI : IV h D node n nw nd wi sn ns code cm s past u K) : u ≤ 6 := hI.2.2.2.1.1.2.1
theorem pair_passes {d d' : Nat} {x : Int} (hI : IE h K) : Ex MX8_passes (d + 6) [.inr 2, .inl x] h 0 0 (PR MX9_passes_ (d' + 1) [.inr 476, .inl x] K) := by
  obtain ⟨D, node, n, nw, nd, wi, sn, ns, code, cm, s, past, u, hI⟩ := hI
  have hx := hI.x
  have hM := hI.mk
  have hs0 := hI.si.1
  have hs1 := hI.si.2.1
  have hu6 := hI.u6
  obtain ⟨hpr, hep, heu⟩ := hI.2.2.2.1
  have bad : ¬ (1 ≤ x ∧ x ≤ 99) → PR MX9_passes_ (d' + 1) [.inr 476, .inl x] K (some (.inl (-1))) h := by
    intro q
    refine pr_same hI (Ex_of_V tX9_passes_ (Nat.le_of_ble_eq_true rfl) ?_)
    apply bX9_passes__0
    case q2 => intro _; exact ⟨rfl, rfl⟩
    all_goals first
      | exact hM.x
      | (rw [hM.p9, hM.s482]; done)
      | (intro z; exact absurd z q)
  refine Ex_of_V tX8_passes (Nat.le_of_ble_eq_true rfl) ?_
  apply bX8_passes_0
  case q1 => intro q; exact bad (by omega)
  case q3 => intro _ q; exact bad (by omega)
  case r1 => rw [hI.t0]; intros; exact ⟨by omega, by omega⟩
  case q2 =>
    rw [hI.t0]
    intro q q2 q3
    refine pr_same hI (Ex_of_V tX9_passes_ (Nat.le_of_ble_eq_true rfl) ?_)
    apply bX9_passes__0
    case q1 => intro _ _; exact ⟨rfl, rfl⟩
    case q2 => intro z; omega
    case e1 => rw [hI.m0]; intro _ z; exact absurd z q3
    case r1 => rw [hI.m0]; intros; exact ⟨by omega, by omega⟩
    all_goals first
      | exact hM.x
      | (rw [hM.p9, hM.s482]; done)
      | (intros; rw [hM.p9, hM.s482]; decide)
  case e1 =>
    rw [hI.t0]
    intro q q2 q3
    rw [hx.p5, hx.p4]
    refine Ex.mono (eX4_remember hx.p89 hpr hx.k50 hx.b50 hI.dg.wn hI.si hI.rr) ?_
    rintro v g ⟨rfl, fr, hO, hP⟩
    have p4 : jP g 2 4 = 50 := by rw [fr.1]; exact hx.p4
    have g0 : jI g (jP g 2 4) 0 = s 0 := by rw [p4, (fr.2.2.2 50 (by omega)).1]; exact hI.rr.1
    have rr2 := hI.rr.fr hx.b50 hI.si.2.2.2.2.2.2.1 fr (by omega)
    apply bX8_passes_42
    case s1 => rw [fr.2.1]; exact hx.s2
    case s2 => rw [p4, fr.2.1]; exact hx.k50.1
    case r1 => rw [g0]; exact ⟨by omega, by omega⟩
    case q1 =>
      rw [g0, p4]
      have fr2 : Fr 50 51 g (jsI g 50 0 (s 0 + x)) := Fr.sI (by omega) (by omega)
      have f1 : FP uP h (jsI g 50 0 (s 0 + x)) := (fr.fp (fun a h1 h2 => by unfold uP; omega)).trans (fr2.fp (fun a h1 h2 => by unfold uP; omega))
      have hM1 : MK (jsI g 50 0 (s 0 + x)) := hM.fr f1.1 f1.2.1
      have es1 : jX (jsI g 50 0 (s 0 + x)) 482 = s := ((fr.2.2.2 482 (by omega)).2.1).trans hI.es
      have ep1 : jX (jsI g 50 0 (s 0 + x)) 483 = past := ((fr.2.2.2 483 (by omega)).2.1).trans hep
      have i476 : jI (jsI g 50 0 (s 0 + x)) 476 = jI h 476 := ((fr2.2.2.2 476 (by omega)).1).trans (fr.2.2.2 476 (by omega)).1
      have m0 : jX (jsI g 50 0 (s 0 + x)) (jP (jsI g 50 0 (s 0 + x)) 476 9) 0 = s 0 := by rw [hM1.p9, es1]
      refine ⟨s 0 + x, rfl, hM1.x, Ex_of_V tX9_passes_ (Nat.le_of_ble_eq_true rfl) ?_⟩
      apply bX9_passes__0
      case q1 => rw [m0]; intro _ z; exact absurd q3 z
      case q2 => intro z; omega
      case r1 => rw [m0]; intros; exact ⟨by omega, by omega⟩
      case e1 =>
        intro _ _
        refine Ex.mono (eX9_notes hM1 es1 ep1 (by rw [i476]; exact heu) hu6) ?_
        rintro v g2 ⟨rfl, fn, e3, e6, e11, ei⟩
        have hM2 : MK g2 := hM1.fr fn.1 fn.2.1
        have es2 : jX g2 482 = s := (fn.2.2.2 482 (by omega)).2.1.trans es1
        have m02 : jX g2 (jP g2 476 9) 0 = s 0 := by rw [hM2.p9, es2]
        apply bX9_passes__33
        case r1 => rw [m02]; exact ⟨by omega, by omega⟩
        case q1 =>
          rw [m02, hM2.p9]
          refine ⟨rfl, ?_⟩
          have f2 : FP uP h (jsX g2 482 0 (s 0 + x)) := (f1.trans (fn.wide (fun a ha => by unfold uP; omega))).trans (FP.sX (by unfold uP; omega))
          have f3 : FP (fun a => a = 482 ∨ a = 483 ∨ a = 476) (jsI g 50 0 (s 0 + x)) (jsX g2 482 0 (s 0 + x)) := (fn.wide (fun a ha => by omega)).trans (FP.sX (Or.inl rfl))
          have hb1 : RB (jsI g 50 0 (s 0 + x)) 50 := (hx.b50.fr fr (by omega)).fr fr2 (by omega)
          have hO1 : PO (jsI g 50 0 (s 0 + x)) := hO.fr fr2 (by omega)
          have hP1 := hP.fr hO fr2 (by omega)
          have e : ∀ j, j ≠ 0 → up s 0 (s 0 + x) j = s j := fun j hj => if_neg hj
          have hr1 : RecRep (jsI g 50 0 (s 0 + x)) 50 (up s 0 (s 0 + x)) node n := by
            obtain ⟨a0, a1, a2, a3, a4, a5, a6⟩ := rr2
            refine ⟨by rw [jI_sI, if_pos ⟨rfl, rfl⟩]; rfl, by rw [jI_sI, if_neg (by omega), e 1 (by omega)]; exact a1, by rw [jI_sI, if_neg (by omega), e 2 (by omega)]; exact a2, by rw [jI_sI, if_neg (by omega), e 4 (by omega)]; exact a3, by rw [jI_sI, if_neg (by omega), e 3 (by omega)]; exact a4, fun k hk hw => by rw [e _ (by omega)]; exact a5 k hk hw, fun i hi => ?_⟩
            rw [e 3 (by omega)] at hi
            obtain ⟨j, hj, ej⟩ := (hx.b50.fr fr (by omega)).1 i (by have := hI.si.2.2.2.2.2.2.1; omega)
            have hb := a6 i hi
            have hsb := (hI.si.2.2.2.2.2.2.2.2.2.2 i hi).2.2.2.2.1
            show BRep (jsI g 50 0 (s 0 + x)) (jY g 51 i) _ node n _
            rw [ej] at hb ⊢
            exact (hb.fr fr2 (by omega)).cong hI.dg.wn hsb (fun t ht => e _ (by omega))
          refine ⟨D, node, n, nw, nd, wi, sn, ns, code, cm, up s 0 (s 0 + x), pnt past u s, _, hI.upd (K' := K + 1) f2 (fun j hj => ?_) (hO1.fp f3 (fun a h1 h2 => by omega)) (hb1.fp f3 (by omega)) (hr1.fp hb1 (by rw [e 3 (by omega)]; exact hI.si.2.2.2.2.2.2.1) f3 (fun a h1 h2 => by omega)) ?_ ((SI_time hI.si (by omega) (by omega)).grow (by omega)) ((hP1.fp hO1 f3 (fun a h1 h2 => by omega)).grow (by omega)) ?_ e11 (by omega)⟩
          · show jI g2 476 j = _
            rw [ei j hj, i476]
          · funext j
            rw [jX_sX, es2]
            unfold up
            by_cases z : j = 0
            · rw [if_pos ⟨rfl, z⟩, if_pos z]
            · rw [if_neg (fun y => z y.2), if_neg z]
          · funext j
            rw [jX_sX, if_neg (by omega), e3]
        all_goals first
          | exact hM2.x
          | (rw [hM2.p9, hM2.s482]; done)
          | (rw [hM2.p9, hM2.s482]; decide)
      all_goals first
        | exact hM1.x
        | (rw [hM1.p9, hM1.s482]; done)
        | (intros; rw [hM1.p9, hM1.s482]; decide)
  all_goals first
    | exact hx.s2
    | exact hI.rk
    | (rw [hx.p5]; exact hx.p89.1)
end LN
