/-! ===== both sides: dumps ===== -/
section LT
variable {h g : jH} {node wi sn code cm s past s' past' : Nat → Int} {n nw nd ns u u' D : Nat} {K K' : Int}
theorem IV.o2 (hI : IV h D node n nw nd wi sn ns code cm s past u K) : jI h (jP h 2 4) 1 = s 1 := by rw [hI.x.p4]; exact hI.rr.2.1
theorem IV.m11 (hI : IV h D node n nw nd wi sn ns code cm s past u K) : jX h (jP h 476 9) 1 = s 1 := by rw [hI.x.mk.p9, hI.es]
/-- the model's side of an update: what was, is noted; then comes the rest -/
theorem pair_dumps {d d' : Nat} {x : Int} (hI : IE h K) (hK : K ≤ 9999) : Ex MX8_dumps (d + 6) [.inr 2, .inl x] h 0 0 (PR MX9_dumps (d' + 2) [.inr 476, .inl x] K) := by
  obtain ⟨D, node, n, nw, nd, wi, sn, ns, code, cm, s, past, u, hI⟩ := hI
  have hx := hI.x
  have hM := hI.mk
  obtain ⟨i0, i1, i2, i3, i4, i5, i6, i7, i8, i9, i10⟩ := id hI.si
  have hu6 := hI.u6
  obtain ⟨hpr, hep, heu⟩ := hI.2.2.2.1
  have bad : ¬ (0 ≤ x ∧ x ≤ 1) → PR MX9_dumps (d' + 2) [.inr 476, .inl x] K (some (.inl (-1))) h := by
    intro q
    refine pr_same hI (Ex_of_V tX9_dumps (Nat.le_of_ble_eq_true rfl) ?_)
    apply bX9_dumps_0
    case q2 => intro _; exact ⟨rfl, rfl⟩
    all_goals first
      | exact hM.x
      | (rw [hM.p9, hM.s482]; done)
      | (intro z; exact absurd z q)
  have same : (x = 0 ∨ x = 1) → s 1 = x → PR MX9_dumps (d' + 2) [.inr 476, .inl x] K (some (.inl (-2))) h := by
    intro q q2
    refine pr_same hI (Ex_of_V tX9_dumps (Nat.le_of_ble_eq_true rfl) ?_)
    apply bX9_dumps_0
    case q1 => intro _ _; exact ⟨rfl, rfl⟩
    case q2 => intro z; omega
    case e1 => rw [hI.m11]; intro _ z; exact absurd q2 z
    all_goals first
      | exact hM.x
      | (rw [hM.p9, hM.s482]; done)
      | (intros; rw [hM.p9, hM.s482]; decide)
  have go : (x = 0 ∨ x = 1) → s 1 ≠ x → Ex MX4_remember (d + 5) [.inr (jP h 2 5), .inr (jP h 2 4)] h 0 0 (fun v h2 => V MX8_dumps (d + 6) 45 [some (.inr 2), some (.inl x)] (v.toList ++ []) h2 0 0 (PR MX9_dumps (d' + 2) [.inr 476, .inl x] K)) := by
    intro hx01 hne
    rw [hx.p5, hx.p4]
    refine Ex.mono (eX4_remember hx.p89 hpr hx.k50 hx.b50 hI.dg.wn hI.si hI.rr) ?_
    rintro v g ⟨rfl, fr, hO, hP⟩
    have p4 : jP g 2 4 = 50 := by rw [fr.1]; exact hx.p4
    have rr2 := hI.rr.fr hx.b50 i6 fr (by omega)
    have br2 := hx.b50.fr fr (by omega)
    have sk2 := hx.k50.fr fr.1 fr.2.1
    have turn : Ex MX6_turn (d + 2) [.inr (jP g 2 4), .inl x] g 0 0 (fun v h2 => V MX8_dumps (d + 6) 62 [some (.inr 2), some (.inl x)] (v.toList ++ []) h2 0 0 (PR MX9_dumps (d' + 2) [.inr 476, .inl x] K)) := by
      rw [p4]
      refine Ex.mono (eX6_turn hx01 sk2 br2 hI.dg.wn hI.si (by omega) rr2) ?_
      rintro v g2 ⟨rfl, fr2, br3, rr3⟩
      have f1 : FP uP h g2 := (fr.fp (fun a h1 h2 => by unfold uP; omega)).trans (fr2.fp (fun a h1 h2 => by unfold uP; omega))
      have p42 : jP g2 2 4 = 50 := by rw [fr2.1]; exact p4
      have hM1 : MK g2 := hM.fr f1.1 f1.2.1
      have es1 : jX g2 482 = s := ((fr2.2.2.2 482 (by omega)).2.1).trans (((fr.2.2.2 482 (by omega)).2.1).trans hI.es)
      have ep1 : jX g2 483 = past := ((fr2.2.2.2 483 (by omega)).2.1).trans (((fr.2.2.2 483 (by omega)).2.1).trans hep)
      have i476 : jI g2 476 = jI h 476 := ((fr2.2.2.2 476 (by omega)).1).trans (fr.2.2.2 476 (by omega)).1
      have hO1 : PO g2 := hO.fr fr2 (by omega)
      have hP1 := hP.fr hO fr2 (by omega)
      -- all together, behind the model's call
      have fin : ∀ g3 : jH, FP (fun a => a = 482 ∨ a = 483 ∨ a = 476) g2 g3 → jX g3 482 = dmp s x → jX g3 483 = pnt past u s → jI g3 476 11 = ((if u = 6 then 6 else u + 1 : Nat) : Int) → (∀ k, k ≠ 11 → jI g3 476 k = jI h 476 k) → IE g3 (K + 1) := by
        intro g3 f3 e2 e3 e11 ei
        exact ⟨D, node, n, nw, nd, wi, sn, ns, code, cm, dmp s x, pnt past u s, _, hI.upd (K' := K + 1) (f1.trans (f3.wide (fun a ha => by unfold uP; omega))) ei (hO1.fp f3 (fun a h1 h2 => by omega)) (br3.fp f3 (by omega)) (rr3.fp br3 ((SI_dmp hI.si).2.2.2.2.2.2.1) f3 (fun a h1 h2 => by omega)) e2 (SI_dmp hI.si) ((hP1.fp hO1 f3 (fun a h1 h2 => by omega)).grow (by omega)) e3 e11 (by omega)⟩
      apply bX8_dumps_62
      case s1 => rw [f1.2.1]; exact hx.s2
      case s2 => rw [p42, f1.2.1]; exact hx.k50.1
      case q1 =>
        rw [p42, rr3.2.2.2.2.1]
        refine ⟨dmp s x 3, rfl, hM1.x, Ex_of_V tX9_dumps (Nat.le_of_ble_eq_true rfl) ?_⟩
        have m1 : jX g2 (jP g2 476 9) 1 = s 1 := by rw [hM1.p9, es1]
        apply bX9_dumps_0
        case q1 => rw [m1]; intro _ z; exact absurd z hne
        case q2 => intro z; omega
        case e1 =>
          intro _ _
          refine Ex.mono (eX9_notes hM1 es1 ep1 (by rw [i476]; exact heu) hu6) ?_
          rintro v g3 ⟨rfl, fn, e3, e6, e11, ei⟩
          have hM3 : MK g3 := hM1.fr fn.1 fn.2.1
          have es3 : jX g3 482 = s := (fn.2.2.2 482 (by omega)).2.1.trans es1
          have n3 : jX g3 (jP g3 476 9) 3 = s 3 := by rw [hM3.p9, es3]
          have n0 : jX g3 (jP g3 476 9) 0 = s 0 := by rw [hM3.p9, es3]
          apply bX9_dumps_28
          case r1 => rw [n3]; intros; exact ⟨by omega, by omega⟩
          case r2 => rw [n3]; intros; exact ⟨by omega, by omega⟩
          case q1 =>
            intro z
            obtain rfl : x = 0 := by omega
            have hlo : (11 + 33 * (s 3 - 1) + 1).toNat = lo s + 1 := by unfold lo; omega
            rw [n3, n0, hM3.p9, hlo]
            have hd : dmp s 0 = up (up s 1 0) (lo s + 1) (s 0) := if_pos rfl
            have ex : jX (jsX (jsX g3 482 1 0) 482 (lo s + 1) (s 0)) 482 = dmp s 0 := by
              rw [hd]
              funext k
              rw [jX_sX, jX_sX, es3]
              unfold up
              by_cases y : k = lo s + 1
              · rw [if_pos ⟨rfl, y⟩, if_pos y]
              · rw [if_neg (fun w => y w.2), if_neg y]
                by_cases y2 : k = 1
                · rw [if_pos ⟨rfl, y2⟩, if_pos y2]
                · rw [if_neg (fun w => y2 w.2), if_neg y2]
            refine ⟨by rw [ex], fin _ ((fn.wide (fun a ha => by omega)).trans ((FP.sX (Or.inl rfl)).trans (FP.sX (Or.inl rfl)))) ex (funext fun k => ?_) e11 (fun k hk => ?_)⟩
            · rw [jX_sX, if_neg (by omega), jX_sX, if_neg (by omega), e3]
            · exact (ei k hk).trans (by rw [i476])
          case e1 =>
            intro z
            subst z
            rw [hM3.p9]
            have hd : dmp s 1 = bbg (up s 1 1) := if_neg (by decide)
            have ex : jX (jsX g3 482 1 1) 482 = up s 1 1 := by
              funext k
              rw [jX_sX, es3]
              unfold up
              by_cases y2 : k = 1
              · rw [if_pos ⟨rfl, y2⟩, if_pos y2]
              · rw [if_neg (fun w => y2 w.2), if_neg y2]
            have hM4 : MK (jsX g3 482 1 1) := hM3.fr rfl rfl
            have u3 : up s 1 1 3 = s 3 := if_neg (by decide)
            have u4 : up s 1 1 4 = s 4 := if_neg (by decide)
            refine Ex.mono (eX9_blockBegins hM4 ex (by rw [u3]; omega) (by rw [u3]; omega) (by rw [u4]; omega) (by rw [u4]; omega)) ?_
            rintro v g4 ⟨rfl, fx, e4⟩
            have hM5 : MK g4 := hM4.fr fx.2.1 fx.2.2.2.1
            apply bX9_dumps_44
            case q1 =>
              rw [hM5.p9, e4, ← hd]
              refine ⟨rfl, fin g4 (((fn.wide (fun a ha => by omega)).trans (FP.sX (Or.inl rfl))).trans (fx.fp (fun a ha => Or.inl ha))) (by rw [e4, hd]) ?_ ?_ (fun k hk => ?_)⟩
              · rw [fx.2.2.2.2.2 483 (by omega)]
                funext k
                rw [jX_sX, if_neg (by omega), e3]
              · rw [fx.1]; exact e11
              · rw [fx.1]; exact (ei k hk).trans (by rw [i476])
            all_goals first
              | exact hM5.x
              | (rw [hM5.p9, hM5.s482]; done)
              | (rw [hM5.p9, hM5.s482]; decide)
          all_goals (try rw [n3])
          all_goals first
            | exact hM3.x
            | (rw [hM3.p9, hM3.s482]; done)
            | (rw [hM3.p9, hM3.s482]; decide)
            | (intros; omega)
            | (intros; rw [hM3.p9, hM3.s482]; decide)
            | (intros; rw [hM3.p9, hM3.s482]; refine Int.lt_of_le_of_lt (b := 208) ?_ (by decide); omega)
        all_goals first
          | exact hM1.x
          | (rw [hM1.p9, hM1.s482]; done)
          | (intros; rw [hM1.p9, hM1.s482]; decide)
    apply bX8_dumps_45
    case e1 => intro z; obtain rfl : x = 0 := by omega
               exact turn
    case e2 => intro z; subst z; exact turn
    case s1 => rw [fr.2.1]; exact hx.s2
    case s2 => rw [p4, fr.2.1]; exact hx.k50.1
  refine Ex_of_V tX8_dumps (Nat.le_of_ble_eq_true rfl) ?_
  apply bX8_dumps_0
  case q5 => intro q q2; exact bad (by omega)
  case q1 => rw [hI.o2]; intro q _ q2; exact same (Or.inl q) (by omega)
  case q2 => rw [hI.o2]; intro q q1; omega
  case q3 => rw [hI.o2]; intro _ q q1; exact absurd q q1
  case q4 => rw [hI.o2]; intro _ q _ q2; exact same (Or.inr q) (by omega)
  case e1 => rw [hI.o2]; intro q _ q2; exact go (Or.inl q) (by omega)
  case e2 => intro q q1; omega
  case e3 => intro _ q q1; exact absurd q q1
  case e4 => rw [hI.o2]; intro _ q _ q2; exact go (Or.inr q) (by omega)
  all_goals first
    | exact hx.s2
    | exact hI.rk
    | (rw [hx.p5]; exact hx.p89.1)
end LT
