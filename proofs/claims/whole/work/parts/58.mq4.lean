/-! ===== the model: ticks ===== -/
section LE
variable {h g : jH} {node wi sn code cm s past : Nat → Int} {n nw nd ns u D : Nat} {K : Int} {L : Nat} {P : Nat → Prop}
theorem eX9_lay {d : Nat} {t : Int} (hI : IV h D node n nw nd wi sn ns code cm s past u K) :
    Ex MX9_laysAt (d + 3) [.inr 476, .inl t] h 0 0 (fun v g => v = none ∧ FX (fun b => b = 493 ∨ b = 494 ∨ b = 495) h g ∧ XF h g ∧ ∀ i, i < n → jX g 493 i = nvs node code cm (wv s t) n i) := by
  obtain ⟨g1, g2, g3, g4, g5, g6, -⟩ := id hI.dg
  refine Ex.mono (eX9_laysAt hI.mk hI.md g1 g2 g3 g5 hI.dg.wn hI.es hI.si) ?_
  rintro v g ⟨rfl, fx, hl⟩
  exact ⟨rfl, fx, (fx.fp (P' := fun b => b = 493 ∨ b = 494 ∨ b = 495) (fun a ha => ha)).xf (fun a ha => by unfold sc; omega), hl⟩
theorem eX9_isTick {d : Nat} {set : Int} (hM : MK h) (hm : jI h 476 1 = (n : Int)) (hn : n ≤ 12) :
    Ex MX9_isTick d [.inr 476, .inl set] h 0 0 (fun v g => (∃ z, v = some (.inl z) ∧ bz z (∃ k, k < n ∧ bit set k ∧ jX h 498 k ≠ -7 ∧ jX h 493 k ≠ -7 ∧ jX h 498 k ≠ jX h 493 k)) ∧ g = h) := by
  refine Ex_of_V tX9_isTick (Nat.le_of_ble_eq_true rfl) ?_
  apply bX9_isTick_0
  have key : ∀ (w k : Nat) (z : Int), k + w = n → bz z (∃ j, j < k ∧ bit set j ∧ jX h 498 j ≠ -7 ∧ jX h 493 j ≠ -7 ∧ jX h 498 j ≠ jX h 493 j) → V MX9_isTick d 4 [some (.inr 476), some (.inl set), some (.inl z), some (.inl (k : Int))] [] h 0 0 (fun v g => (∃ z, v = some (.inl z) ∧ bz z (∃ k, k < n ∧ bit set k ∧ jX h 498 k ≠ -7 ∧ jX h 493 k ≠ -7 ∧ jX h 498 k ≠ jX h 493 k)) ∧ g = h) := by
    intro w
    induction w with
    | zero =>
      intro k z hk hz
      obtain rfl : k = n := by omega
      have hng : ∀ P : Prop, ¬ (jI h 476 1 ≤ (k : Int)) → P := fun P q => absurd (by rw [hm]; exact Int.le_refl _) q
      apply bX9_isTick_4
      case q1 => intro _; exact ⟨⟨z, rfl, hz⟩, rfl⟩
      case z1 => intro _; exact hz.1
      all_goals first
        | exact hM.x
        | (rw [hM.p41, hM.s498]; done)
        | (rw [hM.p36, hM.s493]; done)
        | (intro q; exact hng _ q)
    | succ w ih =>
      intro k z hk hz
      have hj1 : (k : Int) + 1 = ((k + 1 : Nat) : Int) := by omega
      have x1 : jX h (jP h 476 41) ((((k : Nat) : Int)).toNat) = jX h 498 k := by rw [hM.p41, Int.toNat_natCast]
      have x2 : jX h (jP h 476 36) ((((k : Nat) : Int)).toNat) = jX h 493 k := by rw [hM.p36, Int.toNat_natCast]
      have no : z = 0 → (bit set k → jX h 498 k ≠ -7 → jX h 493 k ≠ -7 → jX h 498 k = jX h 493 k) → V MX9_isTick d 4 [some (.inr 476), some (.inl set), some (.inl 0), some (.inl ((k + 1 : Nat) : Int))] [] h 0 0 (fun v g => (∃ z, v = some (.inl z) ∧ bz z (∃ k, k < n ∧ bit set k ∧ jX h 498 k ≠ -7 ∧ jX h 493 k ≠ -7 ∧ jX h 498 k ≠ jX h 493 k)) ∧ g = h) := by
        intro z0 q
        refine ih (k + 1) 0 (by omega) (bz_0 (fun ⟨j, j1, j2, j3, j4, j5⟩ => ?_))
        by_cases y : j = k
        · subst y; exact j5 (q j2 j3 j4)
        · have := hz.2.mpr ⟨j, by omega, j2, j3, j4, j5⟩; omega
      apply bX9_isTick_4
      case q1 => rw [hm]; intro q; omega
      case z1 => intro _; exact hz.1
      case k1 =>
        intro _ q
        obtain ⟨j, j1, j2⟩ := hz.2.mp (by have := hz.1; omega)
        rw [hj1]
        exact ih (k + 1) 1 (by omega) (bz_1 ⟨j, by omega, j2⟩)
      case k2 => intro _ q q2; rw [hj1]; exact no q (fun y => absurd y q2)
      case k3 => rw [x1]; intro _ q q2 q3; rw [hj1]; exact no q (fun _ y => absurd q3 y)
      case k4 => rw [x1, x2]; intro _ q q2 q3 q4; rw [hj1]; exact no q (fun _ _ y => absurd q4 y)
      case k5 => rw [x1, x2]; intro _ q q2 q3 q4 q5; rw [hj1]; exact no q (fun _ _ _ => q5)
      case k6 => rw [x1, x2]; intro _ q q2 q3 q4 q5; rw [hj1]; exact ih (k + 1) 1 (by omega) (bz_1 ⟨k, by omega, q2, q3, q4, q5⟩)
      all_goals first
        | exact hM.x
        | (rw [hM.p41, hM.s498]; done)
        | (rw [hM.p36, hM.s493]; done)
        | (intros; exact ⟨by omega, by omega⟩)
        | (intros; omega)
        | (intros; rw [hM.p41, hM.s498]; refine Int.lt_of_le_of_lt (b := 11) ?_ (by decide); omega)
        | (intros; rw [hM.p36, hM.s493]; refine Int.lt_of_le_of_lt (b := 11) ?_ (by decide); omega)
  have h9 := key n 0 0 (by omega) (bz_0 (fun ⟨x, x1, _⟩ => absurd x1 (Nat.not_lt_zero _)))
  exact h9
theorem nl_turn {t : Nat} {k : Nat} (ht : tn s (t : Int)) : nl node code cm s n k t = nvs node code cm (wv s t) n k := by
  unfold nl
  rw [ltn_p ht]
theorem nl_stay {t : Nat} {k : Nat} (ht : ¬ tn s ((t + 1 : Nat) : Int)) : nl node code cm s n k (t + 1) = nl node code cm s n k t := by
  unfold nl
  rw [ltn_n ht]
theorem eX9_ticks {d : Nat} {set k : Int} (hI : IV h D node n nw nd wi sn ns code cm s past u K) :
    Ex MX9_ticks (d + 4) [.inr 476, .inl set, .inl k] h 0 0 (fun v g => XF h g ∧ ∃ z, v = some (.inl z) ∧ QR (okt n set k) (tkS (nl node code cm s n) n (s 0).toNat set k) z) := by
  have hM := hI.mk
  have hn12 := hI.dg.1
  have hs0 := hI.si.1
  have hs1 := hI.si.2.1
  have hsh : jshl 1 (n : Int) = ((2 ^ n : Nat) : Int) := shl_b n (by omega)
  have h2n : 2 ^ n ≤ 2 ^ 12 := Nat.pow_le_pow_right (by decide) hn12
  have h12 : (2 : Nat) ^ 12 = 4096 := by decide
  have hpos : 0 < 2 ^ n := Nat.pow_pos (by decide)
  refine Ex_of_V tX9_ticks (Nat.le_of_ble_eq_true rfl) ?_
  apply bX9_ticks_0
  case r1 => rw [hI.m1, hsh]; exact ⟨by omega, by omega⟩
  case q1 => rw [hI.m1]; intro q; exact ⟨XF.rf, _, rfl, Or.inl ⟨fun z => q ⟨z.1, by have := z.2.1; omega⟩, rfl⟩⟩
  case q2 => intro _ q; exact ⟨XF.rf, _, rfl, Or.inl ⟨fun z => q z.2.2, rfl⟩⟩
  case e1 =>
    rw [hI.m1]
    intro o1 o2
    have ok : okt n set k := ⟨o1.1, by omega, o2⟩
    refine Ex.mono (eX9_laysTurns hM hI.es hI.si) ?_
    rintro v g ⟨rfl, fx, hT⟩
    have xf : XF h g := (fx.fp (P' := fun b => b = 496) (fun a ha => ha)).xf (fun a ha => by unfold sc; omega)
    apply bX9_ticks_27
    have key : ∀ (w t : Nat) (g : jH) (u5 : Option jA), t + w = (s 0).toNat + 1 → XF h g → TM g (tn s) → (0 < t → ∀ i, i < n → jX g 493 i = nl node code cm s n i (t - 1)) → (∀ e, e < t → tkP (nl node code cm s n) n set e → (ctc (tkP (nl node code cm s n) n set) e : Int) ≠ k) →
        V MX9_ticks (d + 4) 32 [some (.inr 476), some (.inl set), some (.inl k), some (.inl (ctc (tkP (nl node code cm s n) n set) t : Int)), some (.inl (t : Int)), u5] [] g 0 0 (fun v g => XF h g ∧ ∃ z, v = some (.inl z) ∧ QR (okt n set k) (tkS (nl node code cm s n) n (s 0).toNat set k) z) := by
      intro w
      induction w with
      | zero =>
        intro t g u5 ht xf hT hnow hno
        have hJ := hI.xf xf
        have hM := hJ.mk
        obtain rfl : t = (s 0).toNat + 1 := by omega
        have hng : ∀ P : Prop, ¬ (jX g (jP g 476 9) 0 < (((s 0).toNat + 1 : Nat) : Int)) → P := fun P q => absurd (by rw [hJ.m0]; omega) q
        apply bX9_ticks_32
        case q1 => intro _ q; exact ⟨xf, _, rfl, Or.inr ⟨ok, Or.inr ⟨q, Or.inr ⟨rfl, fun e he => hno e (by omega) he.2.1 he.2.2⟩⟩⟩⟩
        case q2 => intro _ q; exact ⟨xf, _, rfl, Or.inr ⟨ok, Or.inl ⟨by omega, rfl⟩⟩⟩
        case k1 => intro q; exact hng _ q
        all_goals first
          | exact hM.x
          | (rw [hM.p9, hM.s482]; done)
          | (rw [hM.p9, hM.s482]; decide)
      | succ w ih =>
        intro t g u5 ht xf hT hnow hno
        have hJ := hI.xf xf
        have hM := hJ.mk
        have hcl := ctc_le (P := tkP (nl node code cm s n) n set) t
        have hj1 : (t : Int) + 1 = ((t + 1 : Nat) : Int) := by omega
        have htn : jX g (jP g 476 39) ((((t : Nat) : Int)).toNat) = jX g 496 t := by rw [hM.p39, Int.toNat_natCast]
        obtain ⟨y1, y2⟩ := hT t (by omega)
        -- to the next time, where this one is no tick
        have on : ∀ (g2 : jH) (u5 : Option jA), XF h g2 → TM g2 (tn s) → (∀ i, i < n → jX g2 493 i = nl node code cm s n i t) → ¬ tkP (nl node code cm s n) n set t → V MX9_ticks (d + 4) 32 [some (.inr 476), some (.inl set), some (.inl k), some (.inl (ctc (tkP (nl node code cm s n) n set) t : Int)), some (.inl ((t + 1 : Nat) : Int)), u5] [] g2 0 0 (fun v g => XF h g ∧ ∃ z, v = some (.inl z) ∧ QR (okt n set k) (tkS (nl node code cm s n) n (s 0).toNat set k) z) := by
          intro g2 u5 xf2 hT2 hn2 hnt
          rw [← ctc_n hnt]
          refine ih (t + 1) g2 u5 (by omega) xf2 hT2 (fun _ i hi => by rw [Nat.add_sub_cancel]; exact hn2 i hi) (fun e he hp => ?_)
          by_cases y : e = t
          · subst y; exact absurd hp hnt
          · exact hno e (by omega) hp
        apply bX9_ticks_32
        case q1 => rw [hJ.m0]; intro q; omega
        case q2 => rw [hJ.m0]; intro q; omega
        case k1 =>
          intro _
          by_cases htt : tn s (t : Int)
          · have h496 : jX g 496 t = 1 := y2.mpr htt
            -- what was is kept
            have cp : ∀ (m j : Nat) (g2 : jH), j + m = n → FX (fun b => b = 498) g g2 → (∀ i, i < j → jX g2 498 i = jX g 493 i) → V MX9_ticks (d + 4) 46 [some (.inr 476), some (.inl set), some (.inl k), some (.inl (ctc (tkP (nl node code cm s n) n set) t : Int)), some (.inl (t : Int)), some (.inl (j : Int))] [] g2 0 0 (fun v g => XF h g ∧ ∃ z, v = some (.inl z) ∧ QR (okt n set k) (tkS (nl node code cm s n) n (s 0).toNat set k) z) := by
              intro m
              induction m with
              | zero =>
                intro j g2 hj fx2 hah
                obtain rfl : j = n := by omega
                have xf2 : XF h g2 := xf.trans ((fx2.fp (P' := fun b => b = 498) (fun a ha => ha)).xf (fun a ha => by unfold sc; omega))
                have hJ2 := hI.xf xf2
                have hM2 := hJ2.mk
                have htn2 : jX g2 (jP g2 476 39) ((((t : Nat) : Int)).toNat) = 1 := by rw [hM2.p39, Int.toNat_natCast, fx2.2.2.2.2.2 496 (by omega)]; exact h496
                have hng : ∀ P : Prop, ¬ (jI g2 476 1 ≤ (j : Int)) → P := fun P q => absurd (by rw [hJ2.m1]; exact Int.le_refl _) q
                apply bX9_ticks_46
                case k1 => rw [htn2]; intro _ q; omega
                case r1 => rw [htn2]; intro _ q; omega
                case e1 =>
                  intro _ _
                  refine Ex.mono (eX9_lay hJ2) ?_
                  rintro v g3 ⟨rfl, fx3, xf3, hv3⟩
                  have xf4 := xf2.trans xf3
                  have hJ4 := hI.xf xf4
                  have hM4 := hJ4.mk
                  have hT4 : TM g3 (tn s) := hT.eq ((fx3.2.2.2.2.2 496 (by omega)).trans (fx2.2.2.2.2.2 496 (by omega)))
                  have hnow4 : ∀ i, i < j → jX g3 493 i = nl node code cm s j i t := fun i hi => by rw [hv3 i hi, nl_turn htt]
                  have hah4 : ∀ i, i < j → jX g3 498 i = jX g 493 i := fun i hi => by rw [fx3.2.2.2.2.2 498 (by omega)]; exact hah i hi
                  apply bX9_ticks_101
                  case s1 => exact hM4.x
                  case r1 => intros; exact ⟨by omega, by omega⟩
                  case k1 =>
                    intro q
                    rw [hj1]
                    exact on g3 _ xf4 hT4 hnow4 (fun ⟨i, _, _, i3⟩ => by have := i3.1; omega)
                  case e1 =>
                    intro q
                    refine Ex.mono (eX9_isTick hM4 hJ4.m1 hn12) ?_
                    rintro v g5 ⟨⟨z, rfl, z1, z2⟩, rfl⟩
                    show V MX9_ticks (d + 4) 111 _ [.inl z] g5 0 0 _
                    have hz : z = 1 ↔ tkP (nl node code cm s j) j set t := by
                      rw [z2]
                      constructor
                      · rintro ⟨i, i1, i2, i3, i4, i5⟩
                        rw [hah4 i i1, hnow (by omega) i i1] at i3 i5
                        rw [hnow4 i i1] at i4 i5
                        exact ⟨i, i1, i2, by omega, i3, i4, fun y => i5 y.symm, Or.inl rfl⟩
                      · rintro ⟨i, i1, i2, i3, i4, i5, i6, -⟩
                        refine ⟨i, i1, i2, ?_, ?_, ?_⟩
                        · rw [hah4 i i1, hnow (by omega) i i1]; exact i4
                        · rw [hnow4 i i1]; exact i5
                        · rw [hah4 i i1, hnow (by omega) i i1, hnow4 i i1]; exact fun y => i6 y.symm
                    apply bX9_ticks_111
                    case r1 => intros; exact ⟨by omega, by omega⟩
                    case r2 => intros; clear z2 hz; exact ⟨by omega, by omega⟩
                    case r3 => intros; clear z2 hz; exact ⟨by omega, by omega⟩
                    case k1 =>
                      intro z0
                      rw [hj1]
                      exact on g5 _ xf4 hT4 hnow4 (fun y => by have := hz.mpr y; omega)
                    case k2 =>
                      intro z0 q2
                      have hp := hz.mp (by omega)
                      rw [hj1, show (ctc (tkP (nl node code cm s j) j set) t : Int) + 1 = (ctc (tkP (nl node code cm s j) j set) (t + 1) : Int) by rw [ctc_p hp]; omega]
                      refine ih (t + 1) g5 _ (by omega) xf4 hT4 (fun _ i hi => by rw [Nat.add_sub_cancel]; exact hnow4 i hi) (fun e he hp => ?_)
                      by_cases y : e = t
                      · subst y; exact q2
                      · exact hno e (by omega) hp
                    case q1 =>
                      intro z0 q2
                      have hp := hz.mp (by omega)
                      exact ⟨xf4, _, rfl, Or.inr ⟨ok, Or.inr ⟨by omega, Or.inl ⟨t, rfl, ⟨by omega, hp, q2⟩, fun e he hpe => hno e he hpe.2.1 hpe.2.2⟩⟩⟩⟩
                all_goals first
                  | exact hM2.x
                  | (rw [hM2.p39, hM2.s496]; done)
                  | (rw [hM2.p36, hM2.s493]; done)
                  | (rw [hM2.p41, hM2.s498]; done)
                  | (intro q; exact hng _ q)
                  | (intros; omega)
                  | (intros; rw [hM2.p39, hM2.s496]; refine Int.lt_of_le_of_lt (b := 1001) ?_ (by decide); omega)
              | succ m ihm =>
                intro j g2 hj fx2 hah
                have xf2 : XF h g2 := xf.trans ((fx2.fp (P' := fun b => b = 498) (fun a ha => ha)).xf (fun a ha => by unfold sc; omega))
                have hJ2 := hI.xf xf2
                have hM2 := hJ2.mk
                have htn2 : jX g2 (jP g2 476 39) ((((t : Nat) : Int)).toNat) = 1 := by rw [hM2.p39, Int.toNat_natCast, fx2.2.2.2.2.2 496 (by omega)]; exact h496
                have hng : ∀ P : Prop, (jI g2 476 1 ≤ (j : Int)) → P := fun P q => absurd q (by rw [hJ2.m1]; omega)
                apply bX9_ticks_46
                case k1 => intro q; exact hng _ q
                case e1 => intro q; exact hng _ q
                case k2 => rw [htn2]; intro _ q; omega
                case e2 => rw [htn2]; intro _ q; omega
                case k3 =>
                  intro _ _
                  rw [show (j : Int) + 1 = ((j + 1 : Nat) : Int) by omega, hM2.p41, hM2.p36, Int.toNat_natCast, fx2.2.2.2.2.2 493 (by omega)]
                  refine ihm (j + 1) _ (by omega) (fx2.trans (FX.sX rfl)) (fun i hi => ?_)
                  rw [jX_sX]
                  by_cases y : i = j
                  · rw [if_pos ⟨rfl, y⟩, y]
                  · rw [if_neg (fun z => y z.2)]; exact hah i (by omega)
                all_goals first
                  | exact hM2.x
                  | (rw [hM2.p39, hM2.s496]; done)
                  | (rw [hM2.p36, hM2.s493]; done)
                  | (rw [hM2.p41, hM2.s498]; done)
                  | (intro q; exact hng _ q)
                  | (intros; exact ⟨by omega, by omega⟩)
                  | (intros; omega)
                  | (intros; rw [hM2.p39, hM2.s496]; refine Int.lt_of_le_of_lt (b := 1001) ?_ (by decide); omega)
                  | (intros; rw [hM2.p36, hM2.s493]; refine Int.lt_of_le_of_lt (b := 11) ?_ (by decide); omega)
                  | (intros; rw [hM2.p41, hM2.s498]; refine Int.lt_of_le_of_lt (b := 11) ?_ (by decide); omega)
            exact cp n 0 g (by omega) FX.rf (fun i hi => absurd hi (Nat.not_lt_zero _))
          · have h496 : jX g 496 t = 0 := by rcases y1 with z | z <;> first | exact z | exact absurd (y2.mp z) htt
            obtain ⟨t', rfl⟩ : ∃ t', t = t' + 1 := by
              cases t with
              | zero => exact absurd tn_0 htt
              | succ t' => exact ⟨t', rfl⟩
            have stay : ∀ i, nl node code cm s n i (t' + 1) = nl node code cm s n i t' := fun i => nl_stay htt
            have go := fun u5 => on g u5 xf hT (fun i hi => by rw [stay i]; have := hnow (by omega) i hi; rw [Nat.add_sub_cancel] at this; exact this) (fun ⟨i, i1, i2, i3⟩ => i3.2.2.2.1 (stay i))
            apply bX9_ticks_46
            case k1 => intro _ _; rw [hj1]; exact go _
            case k2 => intro _ _ _; rw [hj1]; exact go _
            case e1 => rw [htn]; intro _ q; exact absurd h496 q
            case e2 => rw [htn]; intro _ _ q; exact absurd h496 q
            case k3 => rw [htn]; intro _ q; exact absurd h496 q
            case r3 => rw [htn]; intro _ q; exact absurd h496 q
            all_goals first
              | exact hM.x
              | (rw [hM.p39, hM.s496]; done)
              | (rw [hM.p36, hM.s493]; done)
              | (rw [hM.p41, hM.s498]; done)
              | (intros; exact ⟨by omega, by omega⟩)
              | (intros; omega)
              | (intros; rw [hM.p39, hM.s496]; refine Int.lt_of_le_of_lt (b := 1001) ?_ (by decide); omega)
              | (rw [htn]; intro _ q; exact absurd h496 q)
        all_goals first
          | exact hM.x
          | (rw [hM.p9, hM.s482]; done)
          | (rw [hM.p9, hM.s482]; decide)
    have h9 := key ((s 0).toNat + 1) 0 g none (by omega) xf hT (fun q => absurd q (Nat.lt_irrefl _)) (fun e he => absurd he (Nat.not_lt_zero _))
    exact h9
  all_goals first
    | exact hM.x
end LE
