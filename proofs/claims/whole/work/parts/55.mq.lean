/-! ===== the model: questions to a line ===== -/
section LB
variable {h g : jH} {node wi sn code cm s past : Nat → Int} {n nw nd ns u D : Nat} {K : Int} {l : Nat → Int} {L : Nat} {P : Nat → Prop}
theorem IV.m1 (hI : IV h D node n nw nd wi sn ns code cm s past u K) : jI h 476 1 = (n : Int) := hI.md.1
theorem IV.m0 (hI : IV h D node n nw nd wi sn ns code cm s past u K) : jX h (jP h 476 9) 0 = s 0 := by rw [hI.x.mk.p9, hI.es]
theorem IV.mk (hI : IV h D node n nw nd wi sn ns code cm s past u K) : MK h := hI.x.mk
theorem eX9_line {d : Nat} {a : Int} (hI : IV h D node n nw nd wi sn ns code cm s past u K) (h0 : 0 ≤ a) (h1 : a < n) :
    Ex MX9_laysLine (d + 4) [.inr 476, .inl a] h 0 0 (fun v g => v = none ∧ XF h g ∧ IV g D node n nw nd wi sn ns code cm s past u K ∧ ∀ t : Nat, (t : Int) ≤ s 0 → jX g 497 t = nl node code cm s n a.toNat t) := by
  obtain ⟨g1, g2, g3, g4, g5, g6, -⟩ := id hI.dg
  rw [show a = ((a.toNat : Nat) : Int) by omega]
  refine Ex.mono (eX9_laysLine hI.mk hI.md g1 g2 g3 g5 hI.dg.wn hI.es hI.si (by omega)) ?_
  rintro v g ⟨rfl, fx, hl⟩
  have xf : XF h g := (fx.fp (P' := fun b => 493 ≤ b ∧ b ≤ 497) (fun a ha => ha)).xf (fun a ha => by unfold sc; omega)
  exact ⟨rfl, xf, hI.xf xf, hl⟩
theorem eX9_isEdge {d t : Nat} {kind : Int} (hM : MK h) (hl : ∀ t : Nat, t ≤ L → jX h 497 t = l t) (hL : L ≤ 999) (ht : t ≤ L) :
    Ex MX9_isEdge d [.inr 476, .inl (t : Int), .inl kind] h 0 0 (fun v g => (∃ z, v = some (.inl z) ∧ bz z (ed l kind t)) ∧ g = h) := by
  refine Ex_of_V tX9_isEdge (Nat.le_of_ble_eq_true rfl) ?_
  by_cases ht0 : t = 0
  · subst ht0
    apply bX9_isEdge_0
    case q1 => intro _; exact ⟨⟨0, rfl, bz_0 (fun z => absurd z.1 (by decide))⟩, rfl⟩
    all_goals first
      | exact hM.x
      | (rw [hM.p40, hM.s497]; done)
      | (intro q; exact absurd (by decide) q)
  · have x1 : jX h (jP h 476 40) ((((t : Nat) : Int)).toNat) = l t := by rw [hM.p40, Int.toNat_natCast]; exact hl t ht
    have x2 : jX h (jP h 476 40) ((((t : Nat) : Int) - 1).toNat) = l (t - 1) := by rw [hM.p40, show (((t : Nat) : Int) - 1).toNat = t - 1 by omega]; exact hl (t - 1) (by omega)
    apply bX9_isEdge_0
    case q1 => intro q; omega
    case q2 => rw [x2]; intro _ q; exact ⟨⟨0, rfl, bz_0 (fun z => z.2.1 q)⟩, rfl⟩
    case q3 => rw [x2, x1]; intro _ _ q; exact ⟨⟨0, rfl, bz_0 (fun z => z.2.2.1 q)⟩, rfl⟩
    case q4 => rw [x2, x1]; intro _ a b c e; exact ⟨⟨1, rfl, bz_1 ⟨by omega, a, b, c, Or.inl e⟩⟩, rfl⟩
    case q5 => rw [x2, x1]; intro _ a b c e f q; exact ⟨⟨1, rfl, bz_1 ⟨by omega, a, b, c, Or.inr (Or.inr ⟨e, f, by omega⟩)⟩⟩, rfl⟩
    case q6 => rw [x2, x1]; intro _ a b c e f q; exact ⟨⟨0, rfl, bz_0 (fun z => by have := z.2.2.2.2; omega)⟩, rfl⟩
    case q7 => rw [x2, x1]; intro _ a b c e f q; exact ⟨⟨0, rfl, bz_0 (fun z => by have := z.2.2.2.2; omega)⟩, rfl⟩
    case q8 => rw [x2, x1]; intro _ a b c e f q; exact ⟨⟨1, rfl, bz_1 ⟨by omega, a, b, c, Or.inr (Or.inl ⟨f, by omega⟩)⟩⟩, rfl⟩
    case q9 => rw [x2, x1]; intro _ a b c; exact ⟨⟨0, rfl, bz_0 (fun z => z.2.2.2.1 c)⟩, rfl⟩
    all_goals first
      | exact hM.x
      | (rw [hM.p40, hM.s497]; done)
      | (intros; exact ⟨by omega, by omega⟩)
      | (intros; omega)
      | (intros; rw [hM.p40, hM.s497]; refine Int.lt_of_le_of_lt (b := 999) ?_ (by decide); omega)
theorem eX9_next_ {d : Nat} {a kind t : Int} (hI : IV h D node n nw nd wi sn ns code cm s past u K) :
    Ex MX9_next_ (d + 5) [.inr 476, .inl a, .inl kind, .inl t] h 0 0 (fun v g => XF h g ∧ ∃ z, v = some (.inl z) ∧ QR (okk n s a kind t) (FM (nxP (nl node code cm s n a.toNat) (s 0).toNat kind t)) z) := by
  have hM := hI.mk
  have hn12 := hI.dg.1
  have hs0 := hI.si.1
  have hs1 := hI.si.2.1
  refine Ex_of_V tX9_next_ (Nat.le_of_ble_eq_true rfl) ?_
  apply bX9_next__0
  case q1 => rw [hI.m1]; intro q; exact ⟨XF.rf, _, rfl, Or.inl ⟨fun z => q (by have := z.1; omega), rfl⟩⟩
  case q2 => intro _ q; exact ⟨XF.rf, _, rfl, Or.inl ⟨fun z => q z.2.1, rfl⟩⟩
  case q3 => rw [hI.m0]; intro _ _ q; exact ⟨XF.rf, _, rfl, Or.inl ⟨fun z => q z.2.2, rfl⟩⟩
  case e1 =>
    rw [hI.m1, hI.m0]
    intro o1 o2 o3
    have ok : okk n s a kind t := ⟨by omega, o2, o3⟩
    refine Ex.mono (eX9_line hI (by omega) (by omega)) ?_
    rintro v g ⟨rfl, xf, hJ, hl⟩
    have hM := hJ.mk
    apply bX9_next__30
    case r1 => exact ⟨by omega, by omega⟩
    case k1 =>
      have key : ∀ (m e : Nat), e + m = (s 0).toNat + 1 → (∀ j, j < e → ¬ nxP (nl node code cm s n a.toNat) (s 0).toNat kind t j) → t < e → V MX9_next_ (d + 5) 35 [some (.inr 476), some (.inl a), some (.inl kind), some (.inl t), some (.inl (e : Int))] [] g 0 0 (fun v g => XF h g ∧ ∃ z, v = some (.inl z) ∧ QR (okk n s a kind t) (FM (nxP (nl node code cm s n a.toNat) (s 0).toNat kind t)) z) := by
        intro m
        induction m with
        | zero =>
          intro e he hno hte
          apply bX9_next__35
          case q1 => intro _; exact ⟨xf, _, rfl, Or.inr ⟨ok, Or.inr ⟨rfl, fun j hj => hno j (by have := hj.2.1; omega) hj⟩⟩⟩
          all_goals first
            | exact hM.x
            | (rw [hM.p9, hM.s482]; done)
            | (rw [hM.p9, hM.s482]; decide)
            | (rw [hJ.m0]; intro q; omega)
        | succ m ih =>
          intro e he hno hte
          apply bX9_next__35
          case q1 => rw [hJ.m0]; intro q; omega
          case e1 =>
            intro _
            refine Ex.mono (eX9_isEdge (L := (s 0).toNat) hM (fun t ht => hl t (by omega)) (by omega) (by omega)) ?_
            rintro v g2 ⟨⟨z, rfl, z1, z2⟩, rfl⟩
            show V MX9_next_ (d + 5) 53 _ [.inl z] g2 0 0 _
            apply bX9_next__53
            case r1 => intros; exact ⟨by omega, by omega⟩
            case k1 =>
              intro z0
              rw [show (e : Int) + 1 = ((e + 1 : Nat) : Int) by omega]
              refine ih (e + 1) (by omega) (fun j hj hp => ?_) (by omega)
              by_cases w : j = e
              · subst w; have := z2.mpr hp.2.2; omega
              · exact hno j (by omega) hp
            case q1 =>
              intro z0
              exact ⟨xf, _, rfl, Or.inr ⟨ok, Or.inl ⟨e, rfl, ⟨hte, by omega, z2.mp (by omega)⟩, hno⟩⟩⟩
          all_goals first
            | exact hM.x
            | (rw [hM.p9, hM.s482]; done)
            | (rw [hM.p9, hM.s482]; decide)
      have h9 := key ((s 0) - t).toNat (t + 1).toNat (by omega) (fun j hj hp => by have := hp.1; omega) (by omega)
      rw [show (((t + 1).toNat : Nat) : Int) = t + 1 by omega] at h9
      exact h9
  all_goals first
    | exact hM.x
    | (rw [hM.p9, hM.s482]; done)
    | (rw [hI.m1]; omega)
theorem eX9_previous {d : Nat} {a kind t : Int} (hI : IV h D node n nw nd wi sn ns code cm s past u K) :
    Ex MX9_previous (d + 5) [.inr 476, .inl a, .inl kind, .inl t] h 0 0 (fun v g => XF h g ∧ ∃ z, v = some (.inl z) ∧ QR (okk n s a kind t) (FG (pvP (nl node code cm s n a.toNat) (s 0).toNat kind t)) z) := by
  have hM := hI.mk
  have hn12 := hI.dg.1
  have hs0 := hI.si.1
  have hs1 := hI.si.2.1
  refine Ex_of_V tX9_previous (Nat.le_of_ble_eq_true rfl) ?_
  apply bX9_previous_0
  case q1 => rw [hI.m1]; intro q; exact ⟨XF.rf, _, rfl, Or.inl ⟨fun z => q (by have := z.1; omega), rfl⟩⟩
  case q2 => intro _ q; exact ⟨XF.rf, _, rfl, Or.inl ⟨fun z => q z.2.1, rfl⟩⟩
  case q3 => rw [hI.m0]; intro _ _ q; exact ⟨XF.rf, _, rfl, Or.inl ⟨fun z => q z.2.2, rfl⟩⟩
  case e1 =>
    rw [hI.m1, hI.m0]
    intro o1 o2 o3
    have ok : okk n s a kind t := ⟨by omega, o2, o3⟩
    refine Ex.mono (eX9_line hI (by omega) (by omega)) ?_
    rintro v g ⟨rfl, xf, hJ, hl⟩
    have hM := hJ.mk
    apply bX9_previous_30
    case r1 => exact ⟨by omega, by omega⟩
    case k1 =>
      have none0 : ¬ pvP (nl node code cm s n a.toNat) (s 0).toNat kind t 0 := fun z => absurd z.2.2.1 (by decide)
      have key : ∀ (e : Nat), (e : Int) < t → (∀ j, e < j → ¬ pvP (nl node code cm s n a.toNat) (s 0).toNat kind t j) → V MX9_previous (d + 5) 35 [some (.inr 476), some (.inl a), some (.inl kind), some (.inl t), some (.inl (e : Int))] [] g 0 0 (fun v g => XF h g ∧ ∃ z, v = some (.inl z) ∧ QR (okk n s a kind t) (FG (pvP (nl node code cm s n a.toNat) (s 0).toNat kind t)) z) := by
        intro e
        induction e with
        | zero =>
          intro hte hno
          apply bX9_previous_35
          case q1 =>
            intro _
            refine ⟨xf, _, rfl, Or.inr ⟨ok, Or.inr ⟨rfl, fun j hj => ?_⟩⟩⟩
            by_cases w : j = 0
            · subst w; exact none0 hj
            · exact hno j (by omega) hj
          all_goals first
            | exact hM.x
            | (intro q; exact absurd (by decide) q)
        | succ e ih =>
          intro hte hno
          apply bX9_previous_35
          case q1 => intro q; omega
          case e1 =>
            intro _
            refine Ex.mono (eX9_isEdge (L := (s 0).toNat) hM (fun t ht => hl t (by omega)) (by omega) (by omega)) ?_
            rintro v g2 ⟨⟨z, rfl, z1, z2⟩, rfl⟩
            show V MX9_previous (d + 5) 47 _ [.inl z] g2 0 0 _
            apply bX9_previous_47
            case r1 => intros; exact ⟨by omega, by omega⟩
            case k1 =>
              intro z0
              rw [show ((e + 1 : Nat) : Int) + (-1) = (e : Int) by omega]
              refine ih (by omega) (fun j hj hp => ?_)
              by_cases w : j = e + 1
              · subst w; have := z2.mpr hp.2.2; omega
              · exact hno j (by omega) hp
            case q1 =>
              intro z0
              exact ⟨xf, _, rfl, Or.inr ⟨ok, Or.inl ⟨e + 1, rfl, ⟨hte, by omega, z2.mp (by omega)⟩, hno⟩⟩⟩
          all_goals first
            | exact hM.x
      by_cases q : t = 0
      · subst q
        apply bX9_previous_35
        case q1 => intro _; exact ⟨xf, _, rfl, Or.inr ⟨ok, Or.inr ⟨rfl, fun j hj => by have := hj.1; omega⟩⟩⟩
        all_goals first
          | exact hM.x
          | (intro q; exact absurd (by decide) q)
      · have h9 := key (t - 1).toNat (by omega) (fun j hj hp => by have := hp.1; omega)
        rw [show (((t - 1).toNat : Nat) : Int) = t - 1 by omega] at h9
        exact h9
  all_goals first
    | exact hM.x
    | (rw [hM.p9, hM.s482]; done)
    | (rw [hI.m1]; omega)
end LB
