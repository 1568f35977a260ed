/-! ===== the model: first, edges, holds ===== -/
section LC
variable {h g : jH} {node wi sn code cm s past : Nat → Int} {n nw nd ns u D : Nat} {K : Int} {l : Nat → Int} {L : Nat} {P : Nat → Prop}
theorem eX9_first {d : Nat} {a v t : Int} (hI : IV h D node n nw nd wi sn ns code cm s past u K) :
    Ex MX9_first (d + 5) [.inr 476, .inl a, .inl v, .inl t] h 0 0 (fun r g => XF h g ∧ ∃ z, r = some (.inl z) ∧ QR (okv n s a v t) (FM (fsP (nl node code cm s n a.toNat) (s 0).toNat v t)) z) := by
  have hM := hI.mk
  have hn12 := hI.dg.1
  have hs0 := hI.si.1
  have hs1 := hI.si.2.1
  have go : okv n s a v t → Ex MX9_laysLine (d + 4) [.inr 476, .inl a] h 0 0 (fun r h2 => V MX9_first (d + 5) 40 [some (.inr 476), some (.inl a), some (.inl v), some (.inl t), none] (r.toList ++ []) h2 0 0 (fun r g => XF h g ∧ ∃ z, r = some (.inl z) ∧ QR (okv n s a v t) (FM (fsP (nl node code cm s n a.toNat) (s 0).toNat v t)) z)) := by
    intro ok
    obtain ⟨o1, o2, o3⟩ := id ok
    refine Ex.mono (eX9_line hI (by omega) (by omega)) ?_
    rintro r g ⟨rfl, xf, hJ, hl⟩
    have hM := hJ.mk
    apply bX9_first_40
    have key : ∀ (m e : Nat), e + m = (s 0).toNat + 1 → (∀ j, j < e → ¬ fsP (nl node code cm s n a.toNat) (s 0).toNat v t j) → t ≤ e → V MX9_first (d + 5) 43 [some (.inr 476), some (.inl a), some (.inl v), some (.inl t), some (.inl (e : Int))] [] g 0 0 (fun r g => XF h g ∧ ∃ z, r = some (.inl z) ∧ QR (okv n s a v t) (FM (fsP (nl node code cm s n a.toNat) (s 0).toNat v t)) z) := by
      intro m
      induction m with
      | zero =>
        intro e he hno hte
        apply bX9_first_43
        case q1 => intro _; exact ⟨xf, _, rfl, Or.inr ⟨ok, Or.inr ⟨rfl, fun j hj => hno j (by have := hj.2.1; omega) hj⟩⟩⟩
        all_goals first
          | exact hM.x
          | (rw [hM.p9, hM.s482]; done)
          | (rw [hM.p40, hM.s497]; done)
          | (rw [hM.p9, hM.s482]; decide)
          | (rw [hJ.m0]; intro q; omega)
      | succ m ih =>
        intro e he hno hte
        have x1 : jX g (jP g 476 40) ((((e : Nat) : Int)).toNat) = nl node code cm s n a.toNat e := by rw [hM.p40, Int.toNat_natCast]; exact hl e (by omega)
        apply bX9_first_43
        case q1 => rw [hJ.m0]; intro q; omega
        case r1 => intros; exact ⟨by omega, by omega⟩
        case k1 =>
          rw [x1]
          intro _ q
          rw [show (e : Int) + 1 = ((e + 1 : Nat) : Int) by omega]
          refine ih (e + 1) (by omega) (fun j hj hp => ?_) (by omega)
          by_cases w : j = e
          · subst w; exact q hp.2.2
          · exact hno j (by omega) hp
        case q2 =>
          rw [x1]
          intro _ q
          exact ⟨xf, _, rfl, Or.inr ⟨ok, Or.inl ⟨e, rfl, ⟨hte, by omega, q⟩, hno⟩⟩⟩
        all_goals first
          | exact hM.x
          | (rw [hM.p9, hM.s482]; done)
          | (rw [hM.p40, hM.s497]; done)
          | (rw [hM.p9, hM.s482]; decide)
          | (intros; omega)
          | (intros; rw [hM.p40, hM.s497]; refine Int.lt_of_le_of_lt (b := 999) ?_ (by decide); omega)
    have h9 := key ((s 0) - t + 1).toNat t.toNat (by omega) (fun j hj hp => by have := hp.1; omega) (by omega)
    rw [show ((t.toNat : Nat) : Int) = t by omega] at h9
    exact h9
  refine Ex_of_V tX9_first (Nat.le_of_ble_eq_true rfl) ?_
  apply bX9_first_0
  case q1 => rw [hI.m1]; intro q; exact ⟨XF.rf, _, rfl, Or.inl ⟨fun z => q (by have := z.1; omega), rfl⟩⟩
  case q2 => rw [hI.m0]; intro _ _ q; exact ⟨XF.rf, _, rfl, Or.inl ⟨fun z => q z.2.2, rfl⟩⟩
  case q3 => intro _ q q2; exact ⟨XF.rf, _, rfl, Or.inl ⟨fun z => z.2.1.elim q2 q, rfl⟩⟩
  case q4 => rw [hI.m0]; intro _ _ _ q; exact ⟨XF.rf, _, rfl, Or.inl ⟨fun z => q z.2.2, rfl⟩⟩
  case e1 => rw [hI.m1, hI.m0]; intro o1 o2 o3; exact go ⟨by omega, Or.inr o2, o3⟩
  case e2 => rw [hI.m1, hI.m0]; intro o1 o2 o3 o4; exact go ⟨by omega, Or.inl o3, o4⟩
  all_goals first
    | exact hM.x
    | (rw [hM.p9, hM.s482]; done)
    | (rw [hI.m1]; omega)
theorem eX9_edges {d : Nat} {a kind fr to : Int} (hI : IV h D node n nw nd wi sn ns code cm s past u K) :
    Ex MX9_edges (d + 5) [.inr 476, .inl a, .inl kind, .inl fr, .inl to] h 0 0 (fun v g => XF h g ∧ ∃ z, v = some (.inl z) ∧ QR (oke n s a kind fr to) (fun z => z = (ctc (egP (nl node code cm s n a.toNat) kind fr to) ((s 0).toNat + 1) : Int)) z) := by
  have hM := hI.mk
  have hn12 := hI.dg.1
  have hs0 := hI.si.1
  have hs1 := hI.si.2.1
  refine Ex_of_V tX9_edges (Nat.le_of_ble_eq_true rfl) ?_
  apply bX9_edges_0
  case q1 => rw [hI.m1]; intro q; exact ⟨XF.rf, _, rfl, Or.inl ⟨fun z => q (by have := z.1; omega), rfl⟩⟩
  case q2 => intro _ q; exact ⟨XF.rf, _, rfl, Or.inl ⟨fun z => q z.2.1, rfl⟩⟩
  case q3 => rw [hI.m0]; intro _ _ q; exact ⟨XF.rf, _, rfl, Or.inl ⟨fun z => q z.2.2.1, rfl⟩⟩
  case q4 => rw [hI.m0]; intro _ _ _ q; exact ⟨XF.rf, _, rfl, Or.inl ⟨fun z => q z.2.2.2, rfl⟩⟩
  case e1 =>
    rw [hI.m1, hI.m0]
    intro o1 o2 o3 o4
    have ok : oke n s a kind fr to := ⟨by omega, o2, o3, o4⟩
    refine Ex.mono (eX9_line hI (by omega) (by omega)) ?_
    rintro v g ⟨rfl, xf, hJ, hl⟩
    have hM := hJ.mk
    apply bX9_edges_45
    have key : ∀ (m e : Nat), ((e + m : Nat) : Int) = to + 1 → fr ≤ e → V MX9_edges (d + 5) 51 [some (.inr 476), some (.inl a), some (.inl kind), some (.inl fr), some (.inl to), some (.inl (ctc (egP (nl node code cm s n a.toNat) kind fr to) e : Int)), some (.inl (e : Int))] [] g 0 0 (fun v g => XF h g ∧ ∃ z, v = some (.inl z) ∧ QR (oke n s a kind fr to) (fun z => z = (ctc (egP (nl node code cm s n a.toNat) kind fr to) ((s 0).toNat + 1) : Int)) z) := by
      intro m
      induction m with
      | zero =>
        intro e he hfe
        apply bX9_edges_51
        case q1 =>
          intro _
          refine ⟨xf, _, rfl, Or.inr ⟨ok, ?_⟩⟩
          rw [ctc_r (a := e) ((s 0).toNat + 1) (by omega) (fun j h1 h2 hp => by have := hp.2.1; omega)]
        all_goals first
          | exact hM.x
          | (intro q; omega)
      | succ m ih =>
        intro e he hfe
        have hcl := ctc_le (P := egP (nl node code cm s n a.toNat) kind fr to) e
        have hj1 : (e : Int) + 1 = ((e + 1 : Nat) : Int) := by omega
        apply bX9_edges_51
        case q1 => intro q; omega
        case e1 =>
          intro _
          refine Ex.mono (eX9_isEdge (L := (s 0).toNat) hM (fun t ht => hl t (by omega)) (by omega) (by omega)) ?_
          rintro v g2 ⟨⟨z, rfl, z1, z2⟩, rfl⟩
          show V MX9_edges (d + 5) 67 _ [.inl z, .inl _] g2 0 0 _
          apply bX9_edges_67
          case r1 => intros; exact ⟨by omega, by omega⟩
          case r2 => intros; exact ⟨by omega, by omega⟩
          case r3 => intros; exact ⟨by omega, by omega⟩
          case r4 => intros; exact ⟨by omega, by omega⟩
          case k1 =>
            intro z0
            rw [hj1, Int.add_zero, ← ctc_n (P := egP (nl node code cm s n a.toNat) kind fr to) (t := e) (fun w => by have := z2.mpr w.2.2; omega)]
            exact ih (e + 1) (by omega) (by omega)
          case k2 =>
            intro z0
            have hp : egP (nl node code cm s n a.toNat) kind fr to e := ⟨hfe, by omega, z2.mp (by omega)⟩
            rw [hj1, show (ctc (egP (nl node code cm s n a.toNat) kind fr to) e : Int) + 1 = (ctc (egP (nl node code cm s n a.toNat) kind fr to) (e + 1) : Int) by rw [ctc_p hp]; omega]
            exact ih (e + 1) (by omega) (by omega)
        all_goals first
          | exact hM.x
    have h9 := key (to - fr + 1).toNat fr.toNat (by omega) (by omega)
    rw [show ((fr.toNat : Nat) : Int) = fr by omega, ctc_r (a := 0) fr.toNat (by omega) (fun j h1 h2 hp => by have := hp.1; omega)] at h9
    exact h9
  all_goals first
    | exact hM.x
    | (rw [hM.p9, hM.s482]; done)
    | (rw [hI.m1]; omega)
    | (intros; rw [hM.p9, hM.s482]; decide)
theorem eX9_holds {d : Nat} {a m t : Int} (hI : IV h D node n nw nd wi sn ns code cm s past u K) :
    Ex MX9_holds (d + 5) [.inr 476, .inl a, .inl m, .inl t] h 0 0 (fun v g => XF h g ∧ ∃ z, v = some (.inl z) ∧ QR (okh n s a m t) (FM (hoP (nl node code cm s n a.toNat) (s 0).toNat m t)) z) := by
  have hM := hI.mk
  have hn12 := hI.dg.1
  have hs0 := hI.si.1
  have hs1 := hI.si.2.1
  refine Ex_of_V tX9_holds (Nat.le_of_ble_eq_true rfl) ?_
  apply bX9_holds_0
  case q1 => rw [hI.m1]; intro q; exact ⟨XF.rf, _, rfl, Or.inl ⟨fun z => q (by have := z.1; omega), rfl⟩⟩
  case q2 => intro _ q; exact ⟨XF.rf, _, rfl, Or.inl ⟨fun z => q z.2.1, rfl⟩⟩
  case q3 => rw [hI.m0]; intro _ _ q; exact ⟨XF.rf, _, rfl, Or.inl ⟨fun z => q z.2.2, rfl⟩⟩
  case e1 =>
    rw [hI.m1, hI.m0]
    intro o1 o2 o3
    have ok : okh n s a m t := ⟨by omega, o2, o3⟩
    refine Ex.mono (eX9_line hI (by omega) (by omega)) ?_
    rintro v g ⟨rfl, xf, hJ, hl⟩
    have hM := hJ.mk
    apply bX9_holds_34
    have key : ∀ (w e c : Nat), e + w = (s 0).toNat + 1 → c ≤ e → (c : Int) < m → t ≤ (e - c : Nat) → (((e - c : Nat) : Int) = t ∨ (t < (e - c : Nat) ∧ bad (nl node code cm s n a.toNat) (e - c - 1))) → (∀ x, e - c ≤ x → x < e → ¬ bad (nl node code cm s n a.toNat) x) → (∀ r, hoP (nl node code cm s n a.toNat) (s 0).toNat m t r → ¬ (r : Int) + m ≤ e) →
        V MX9_holds (d + 5) 40 [some (.inr 476), some (.inl a), some (.inl m), some (.inl t), some (.inl (c : Int)), some (.inl (e : Int))] [] g 0 0 (fun v g => XF h g ∧ ∃ z, v = some (.inl z) ∧ QR (okh n s a m t) (FM (hoP (nl node code cm s n a.toNat) (s 0).toNat m t)) z) := by
      intro w
      induction w with
      | zero =>
        intro e c he hc hcm hte hst hgo hno
        apply bX9_holds_40
        case q1 => intro _; exact ⟨xf, _, rfl, Or.inr ⟨ok, Or.inr ⟨rfl, fun r hr => hno r hr (by have := hr.2.1; omega)⟩⟩⟩
        all_goals first
          | exact hM.x
          | (rw [hM.p9, hM.s482]; done)
          | (rw [hM.p40, hM.s497]; done)
          | (rw [hM.p9, hM.s482]; decide)
          | (rw [hJ.m0]; intro q; omega)
      | succ w ih =>
        intro e c he hc hcm hte hst hgo hno
        have x1 : jX g (jP g 476 40) ((((e : Nat) : Int)).toNat) = nl node code cm s n a.toNat e := by rw [hM.p40, Int.toNat_natCast]; exact hl e (by omega)
        have hj1 : (e : Int) + 1 = ((e + 1 : Nat) : Int) := by omega
        have isbad : bad (nl node code cm s n a.toNat) e → V MX9_holds (d + 5) 40 [some (.inr 476), some (.inl a), some (.inl m), some (.inl t), some (.inl 0), some (.inl ((e + 1 : Nat) : Int))] [] g 0 0 (fun v g => XF h g ∧ ∃ z, v = some (.inl z) ∧ QR (okh n s a m t) (FM (hoP (nl node code cm s n a.toNat) (s 0).toNat m t)) z) := by
          intro hb
          refine ih (e + 1) 0 (by omega) (by omega) (by omega) (by omega) (Or.inr ⟨by omega, hb⟩) (fun x y1 y2 => by omega) (fun r hr q => ?_)
          by_cases y : (r : Int) + m ≤ e
          · exact hno r hr y
          · exact hr.2.2 e (by omega) (by omega) hb
        apply bX9_holds_40
        case q1 => rw [hJ.m0]; intro q; omega
        case k1 => rw [x1]; intro _ q _; rw [hj1]; exact isbad (Or.inl q)
        case k3 => rw [x1]; intro _ _ q _; rw [hj1]; exact isbad (Or.inr q)
        case q2 => intro _ _ q; omega
        case q4 => intro _ _ _ q; omega
        case k2 =>
          rw [x1]
          intro _ q q2 q3
          rw [hj1, show (c : Int) + 1 = ((c + 1 : Nat) : Int) by omega]
          have hge : e + 1 - (c + 1) = e - c := by omega
          refine ih (e + 1) (c + 1) (by omega) (by omega) (by omega) (by rw [hge]; exact hte) (by rw [hge]; exact hst) (fun x y1 y2 => ?_) (fun r hr q4 => ?_)
          · by_cases y : x < e
            · exact hgo x (by omega) y
            · rw [show x = e by omega]; exact fun z => z.elim q q2
          · by_cases y : (r : Int) + m ≤ e
            · exact hno r hr y
            · rcases hst with z | ⟨z1, z2⟩
              · have := hr.1; omega
              · exact hr.2.2 (e - c - 1) (by omega) (by omega) z2
        case q3 =>
          rw [x1]
          intro _ q q2 q3
          refine ⟨xf, _, rfl, Or.inr ⟨ok, Or.inl ⟨e - c, by omega, ⟨hte, by omega, fun x y1 y2 => ?_⟩, fun r hr hp => hno r hp (by omega)⟩⟩⟩
          by_cases y : x < e
          · exact hgo x y1 y
          · rw [show x = e by omega]; exact fun z => z.elim q q2
        all_goals first
          | exact hM.x
          | (rw [hM.p9, hM.s482]; done)
          | (rw [hM.p40, hM.s497]; done)
          | (rw [hM.p9, hM.s482]; decide)
          | (intros; exact ⟨by omega, by omega⟩)
          | (intros; omega)
          | (intros; rw [hM.p40, hM.s497]; refine Int.lt_of_le_of_lt (b := 999) ?_ (by decide); omega)
    have h9 := key ((s 0) - t + 1).toNat t.toNat 0 (by omega) (by omega) (by omega) (by omega) (Or.inl (by omega)) (fun x y1 y2 => by omega) (fun r hr q => by have := hr.1; omega)
    rw [show ((t.toNat : Nat) : Int) = t by omega] at h9
    exact h9
  all_goals first
    | exact hM.x
    | (rw [hM.p9, hM.s482]; done)
    | (rw [hI.m1]; omega)
    | (intros; rw [hM.p9, hM.s482]; decide)
end LC
