/-! ===== the model: delay ===== -/
section LD
variable {h g : jH} {node wi sn code cm s past : Nat → Int} {n nw nd ns u D : Nat} {K : Int} {l : Nat → Int} {L : Nat} {P : Nat → Prop}
theorem eX9_line2 {d : Nat} {a : Int} (hI : IV h D node n nw nd wi sn ns code cm s past u K) (h0 : 0 ≤ a) (h1 : a < n) :
    Ex MX9_laysLine (d + 4) [.inr 476, .inl a] h 0 0 (fun v g => v = none ∧ FX (fun b => 493 ≤ b ∧ b ≤ 497) h g ∧ XF h g ∧ IV g D node n nw nd wi sn ns code cm s past u K ∧ ∀ t : Nat, (t : Int) ≤ s 0 → jX g 497 t = nl node code cm s n a.toNat t) := by
  obtain ⟨g1, g2, g3, g4, g5, g6, -⟩ := id hI.dg
  rw [show a = ((a.toNat : Nat) : Int) by omega]
  refine Ex.mono (eX9_laysLine hI.mk hI.md g1 g2 g3 g5 hI.dg.wn hI.es hI.si (by omega)) ?_
  rintro v g ⟨rfl, fx, hl⟩
  have xf : XF h g := (fx.fp (P' := fun b => 493 ≤ b ∧ b ≤ 497) (fun a ha => ha)).xf (fun a ha => by unfold sc; omega)
  exact ⟨rfl, fx, xf, hI.xf xf, hl⟩
theorem bz.congr {z : Int} {p q : Prop} (h1 : bz z p) (h2 : p ↔ q) : bz z q := ⟨h1.1, h1.2.trans h2⟩
theorem eX9_delay {d : Nat} {a b : Int} (hI : IV h D node n nw nd wi sn ns code cm s past u K) :
    Ex MX9_delay (d + 5) [.inr 476, .inl a, .inl b] h 0 0 (fun v g => XF h g ∧ ∃ z, v = some (.inl z) ∧ QR (okd n a b) (FM (fun e => e ≤ 50 ∧ flw (nl node code cm s n a.toNat) (nl node code cm s n b.toNat) (s 0).toNat e)) z) := by
  have hM := hI.mk
  have hn12 := hI.dg.1
  have hs0 := hI.si.1
  have hs1 := hI.si.2.1
  refine Ex_of_V tX9_delay (Nat.le_of_ble_eq_true rfl) ?_
  apply bX9_delay_0
  case k1 => rw [hI.m1]; intro q; apply bX9_delay_16; exact ⟨XF.rf, _, rfl, Or.inl ⟨fun z => q (by have := z.1; omega), rfl⟩⟩
  case k2 => rw [hI.m1]; intro _ q; apply bX9_delay_16; exact ⟨XF.rf, _, rfl, Or.inl ⟨fun z => q (by have := z.2; omega), rfl⟩⟩
  case e1 =>
    rw [hI.m1]
    intro o1 o2
    have ok : okd n a b := ⟨by omega, by omega⟩
    refine Ex.mono (eX9_line2 hI (by omega) (by omega)) ?_
    rintro v g ⟨rfl, fx, xf, hJ, hl⟩
    have hM := hJ.mk
    generalize hla : nl node code cm s n a.toNat = la at hl ⊢
    apply bX9_delay_23
    -- the second line, and the search
    have second : ∀ (g : jH) (u4 u5 u6 : Option jA) (i3 : Int), XF h g → (∀ t : Nat, t ≤ (s 0).toNat → bz (jX g 499 t) (ed la 0 t)) → Ex MX9_laysLine (d + 4) [.inr 476, .inl b] g 0 0 (fun v h2 => V MX9_delay (d + 5) 58 [some (.inr 476), some (.inl a), some (.inl b), some (.inl i3), u4, u5, u6] (v.toList ++ []) h2 0 0 (fun v g => XF h g ∧ ∃ z, v = some (.inl z) ∧ QR (okd n a b) (FM (fun e => e ≤ 50 ∧ flw la (nl node code cm s n b.toNat) (s 0).toNat e)) z)) := by
      intro g u4 u5 u6 i3 xf hf
      refine Ex.mono (eX9_line2 (hI.xf xf) (by omega) (by omega)) ?_
      rintro v g2 ⟨rfl, fx2, xf2, hJ, hl2⟩
      have xf3 := xf.trans xf2
      have hM := hJ.mk
      have hf2 : ∀ t : Nat, t ≤ (s 0).toNat → bz (jX g2 499 t) (ed la 0 t) := fun t ht => by rw [fx2.2.2.2.2.2 499 (by omega)]; exact hf t ht
      generalize hlb : nl node code cm s n b.toNat = lb at hl2 ⊢
      apply bX9_delay_58
      have dl : ∀ (m e : Nat) (u4 u5 u6 : Option jA), e + m = 51 → (∀ j, j < e → ¬ flw la lb (s 0).toNat j) → V MX9_delay (d + 5) 60 [some (.inr 476), some (.inl a), some (.inl b), some (.inl (e : Int)), u4, u5, u6] [] g2 0 0 (fun v g => XF h g ∧ ∃ z, v = some (.inl z) ∧ QR (okd n a b) (FM (fun e => e ≤ 50 ∧ flw la lb (s 0).toNat e)) z) := by
        intro m
        induction m with
        | zero =>
          intro e u4 u5 u6 he hno
          obtain rfl : e = 51 := by omega
          apply bX9_delay_60
          case q1 => intro _; exact ⟨xf3, _, rfl, Or.inr ⟨ok, Or.inr ⟨rfl, fun e he => hno e (by omega) he.2⟩⟩⟩
          case k1 => intro q; exact absurd (by decide) q
        | succ m ih =>
          intro e u4 u5 u6 he hno
          apply bX9_delay_60
          case q1 => intro q; omega
          case k1 =>
            intro _
            have key : ∀ (w t : Nat) (i4 i5 : Int), t + w + e ≥ (s 0).toNat + 1 → bz i4 (∃ x, x < t ∧ x + e ≤ (s 0).toNat ∧ ed la 0 x) → bz i5 (∃ x, x < t ∧ x + e ≤ (s 0).toNat ∧ ed la 0 x ∧ ¬ ed lb 0 (x + e)) → t ≤ 1001 → V MX9_delay (d + 5) 75 [some (.inr 476), some (.inl a), some (.inl b), some (.inl (e : Int)), some (.inl i4), some (.inl i5), some (.inl (t : Int))] [] g2 0 0 (fun v g => XF h g ∧ ∃ z, v = some (.inl z) ∧ QR (okd n a b) (FM (fun e => e ≤ 50 ∧ flw la lb (s 0).toNat e)) z) := by
              intro w
              induction w with
              | zero =>
                intro t i4 i5 hw b4 b5 ht
                have goon : ¬ flw la lb (s 0).toNat e → V MX9_delay (d + 5) 162 [some (.inr 476), some (.inl a), some (.inl b), some (.inl (e : Int)), some (.inl i4), some (.inl i5), some (.inl (t : Int))] [] g2 0 0 (fun v g => XF h g ∧ ∃ z, v = some (.inl z) ∧ QR (okd n a b) (FM (fun e => e ≤ 50 ∧ flw la lb (s 0).toNat e)) z) := by
                  intro hne
                  apply bX9_delay_162
                  case r1 => exact ⟨by omega, by omega⟩
                  case k1 =>
                    rw [show (e : Int) + 1 = ((e + 1 : Nat) : Int) by omega]
                    refine ih (e + 1) _ _ _ (by omega) (fun j hj => ?_)
                    by_cases y : j = e
                    · subst y; exact hne
                    · exact hno j (by omega)
                apply bX9_delay_75
                case r1 => exact ⟨by omega, by omega⟩
                case k1 =>
                  intro _ q
                  exact goon (fun ⟨⟨x, x1, x2⟩, _⟩ => by have := b4.2.mpr ⟨x, by omega, x1, x2⟩; omega)
                case k2 =>
                  intro _ _ q
                  obtain ⟨x, x1, x2, x3, x4⟩ := b5.2.mp (by have := b5.1; omega)
                  exact goon (fun z => x4 (z.2 x x2 x3))
                case q1 =>
                  intro _ q q2
                  obtain ⟨x, x1, x2, x3⟩ := b4.2.mp (by have := b4.1; omega)
                  refine ⟨xf3, _, rfl, Or.inr ⟨ok, Or.inl ⟨e, rfl, ⟨by omega, ⟨x, x2, x3⟩, fun y y1 y2 => ?_⟩, fun j hj hp => hno j hj hp.2⟩⟩⟩
                  by_cases z : ed lb 0 (y + e)
                  · exact z
                  · have := b5.2.mpr ⟨y, by omega, y1, y2, z⟩; omega
                all_goals first
                  | exact hM.x
                  | (rw [hM.p9, hM.s482]; done)
                  | (rw [hM.p9, hM.s482]; decide)
                  | (rw [hM.p42, hM.s499]; done)
                  | (rw [hJ.m0]; intro q; omega)
              | succ w ihw =>
                intro t i4 i5 hw b4 b5 ht
                by_cases hpast : t + e ≤ (s 0).toNat
                · have hft : jX g2 (jP g2 476 42) ((((t : Nat) : Int)).toNat) = jX g2 499 t := by rw [hM.p42, Int.toNat_natCast]
                  have hb := hf2 t (by omega)
                  have to75 : ∀ (j4 j5 : Int), bz j4 (∃ x, x < t + 1 ∧ x + e ≤ (s 0).toNat ∧ ed la 0 x) → ∀ i5', bz j5 (∃ x, x < t + 1 ∧ x + e ≤ (s 0).toNat ∧ ed la 0 x ∧ ¬ ed lb 0 (x + e)) → V MX9_delay (d + 5) 142 [some (.inr 476), some (.inl a), some (.inl b), some (.inl (e : Int)), some (.inl j4), some (.inl i5'), some (.inl (t : Int))] [.inl j5] g2 0 0 (fun v g => XF h g ∧ ∃ z, v = some (.inl z) ∧ QR (okd n a b) (FM (fun e => e ≤ 50 ∧ flw la lb (s 0).toNat e)) z) := by
                    intro j4 j5 c4 i5' c5
                    apply bX9_delay_142
                    case r1 => exact ⟨by omega, by omega⟩
                    case k1 =>
                      rw [show (t : Int) + 1 = ((t + 1 : Nat) : Int) by omega]
                      exact ihw (t + 1) j4 j5 (by omega) c4 c5 (by omega)
                  have at108 : ∀ (j4 : Int), bz j4 (∃ x, x < t + 1 ∧ x + e ≤ (s 0).toNat ∧ ed la 0 x) → V MX9_delay (d + 5) 108 [some (.inr 476), some (.inl a), some (.inl b), some (.inl (e : Int)), some (.inl i4), some (.inl i5), some (.inl (t : Int))] [.inl j4] g2 0 0 (fun v g => XF h g ∧ ∃ z, v = some (.inl z) ∧ QR (okd n a b) (FM (fun e => e ≤ 50 ∧ flw la lb (s 0).toNat e)) z) := by
                    intro j4 c4
                    apply bX9_delay_108
                    case r1 => intros; exact ⟨by omega, by omega⟩
                    case k1 =>
                      intro q
                      obtain ⟨x, x1, x2⟩ := b5.2.mp (by have := b5.1; omega)
                      apply bX9_delay_137
                      exact to75 j4 1 c4 _ (bz_1 ⟨x, by omega, x2⟩)
                    case k2 =>
                      rw [hft]
                      intro q q2
                      apply bX9_delay_141
                      refine to75 j4 0 c4 _ (bz_0 (fun ⟨x, x1, x2, x3, x4⟩ => ?_))
                      by_cases y : x = t
                      · subst y; have := hb.2.mpr x3; omega
                      · have := b5.2.mpr ⟨x, by omega, x2, x3, x4⟩; omega
                    case e1 =>
                      rw [hft]
                      intro q q2
                      have hea := hb.2.mp (by have := hb.1; omega)
                      rw [show (t : Int) + (e : Int) = ((t + e : Nat) : Int) by omega]
                      refine Ex.mono (eX9_isEdge (L := (s 0).toNat) hM (fun t ht => hl2 t (by omega)) (by omega) hpast) ?_
                      rintro v g3 ⟨⟨z, rfl, z1, z2⟩, rfl⟩
                      show V MX9_delay (d + 5) 134 _ [.inl z] g3 0 0 _
                      apply bX9_delay_134
                      case k1 =>
                        intro z0
                        have heb := z2.mp (by omega)
                        apply bX9_delay_141
                        refine to75 j4 0 c4 _ (bz_0 (fun ⟨x, x1, x2, x3, x4⟩ => ?_))
                        by_cases y : x = t
                        · subst y; exact x4 heb
                        · have := b5.2.mpr ⟨x, by omega, x2, x3, x4⟩; omega
                      case k2 =>
                        intro z0
                        apply bX9_delay_137
                        exact to75 j4 1 c4 _ (bz_1 ⟨t, by omega, hpast, hea, fun y => by have := z2.mpr y; omega⟩)
                    all_goals first
                      | exact hM.x
                      | (rw [hM.p42, hM.s499]; done)
                      | (intros; omega)
                      | (intros; rw [hM.p42, hM.s499]; refine Int.lt_of_le_of_lt (b := 999) ?_ (by decide); omega)
                  apply bX9_delay_75
                  case r1 => exact ⟨by omega, by omega⟩
                  case k1 => rw [hJ.m0]; intro q; omega
                  case k2 => rw [hJ.m0]; intro q; omega
                  case q1 => rw [hJ.m0]; intro q; omega
                  case k3 =>
                    intro _ q
                    obtain ⟨x, x1, x2⟩ := b4.2.mp (by have := b4.1; omega)
                    apply bX9_delay_103
                    exact at108 1 (bz_1 ⟨x, by omega, x2⟩)
                  case k4 =>
                    rw [hft]
                    intro _ q q2
                    refine at108 0 (bz_0 (fun ⟨x, x1, x2, x3⟩ => ?_))
                    by_cases y : x = t
                    · subst y; have := hb.2.mpr x3; omega
                    · have := b4.2.mpr ⟨x, by omega, x2, x3⟩; omega
                  case k5 =>
                    rw [hft]
                    intro _ q q2
                    apply bX9_delay_103
                    exact at108 1 (bz_1 ⟨t, by omega, hpast, hb.2.mp (by have := hb.1; omega)⟩)
                  all_goals first
                    | exact hM.x
                    | (rw [hM.p9, hM.s482]; done)
                    | (rw [hM.p9, hM.s482]; decide)
                    | (rw [hM.p42, hM.s499]; done)
                    | (intros; omega)
                    | (intros; rw [hM.p42, hM.s499]; refine Int.lt_of_le_of_lt (b := 999) ?_ (by decide); omega)
                · have goon : ¬ flw la lb (s 0).toNat e → V MX9_delay (d + 5) 162 [some (.inr 476), some (.inl a), some (.inl b), some (.inl (e : Int)), some (.inl i4), some (.inl i5), some (.inl (t : Int))] [] g2 0 0 (fun v g => XF h g ∧ ∃ z, v = some (.inl z) ∧ QR (okd n a b) (FM (fun e => e ≤ 50 ∧ flw la lb (s 0).toNat e)) z) := by
                    intro hne
                    apply bX9_delay_162
                    case r1 => exact ⟨by omega, by omega⟩
                    case k1 =>
                      rw [show (e : Int) + 1 = ((e + 1 : Nat) : Int) by omega]
                      refine ih (e + 1) _ _ _ (by omega) (fun j hj => ?_)
                      by_cases y : j = e
                      · subst y; exact hne
                      · exact hno j (by omega)
                  apply bX9_delay_75
                  case r1 => exact ⟨by omega, by omega⟩
                  case k1 =>
                    intro _ q
                    exact goon (fun ⟨⟨x, x1, x2⟩, _⟩ => by have := b4.2.mpr ⟨x, by omega, x1, x2⟩; omega)
                  case k2 =>
                    intro _ _ q
                    obtain ⟨x, x1, x2, x3, x4⟩ := b5.2.mp (by have := b5.1; omega)
                    exact goon (fun z => x4 (z.2 x x2 x3))
                  case q1 =>
                    intro _ q q2
                    obtain ⟨x, x1, x2, x3⟩ := b4.2.mp (by have := b4.1; omega)
                    refine ⟨xf3, _, rfl, Or.inr ⟨ok, Or.inl ⟨e, rfl, ⟨by omega, ⟨x, x2, x3⟩, fun y y1 y2 => ?_⟩, fun j hj hp => hno j hj hp.2⟩⟩⟩
                    by_cases z : ed lb 0 (y + e)
                    · exact z
                    · have := b5.2.mpr ⟨y, by omega, y1, y2, z⟩; omega
                  all_goals first
                    | exact hM.x
                    | (rw [hM.p9, hM.s482]; done)
                    | (rw [hM.p9, hM.s482]; decide)
                    | (rw [hM.p42, hM.s499]; done)
                    | (rw [hJ.m0]; intro q; omega)
            have h9 := key ((s 0).toNat + 1) 0 0 0 (by omega) (bz_0 (fun ⟨x, x1, _⟩ => absurd x1 (Nat.not_lt_zero _))) (bz_0 (fun ⟨x, x1, _⟩ => absurd x1 (Nat.not_lt_zero _))) (by omega)
            exact h9
      exact dl 51 0 _ _ _ (by omega) (fun j hj => absurd hj (Nat.not_lt_zero _))
    have fill : ∀ (w t : Nat) (g : jH), t + w = (s 0).toNat + 1 → XF h g → (∀ x : Nat, (x : Int) ≤ s 0 → jX g 497 x = la x) → (∀ x : Nat, x < t → bz (jX g 499 x) (ed la 0 x)) → V MX9_delay (d + 5) 25 [some (.inr 476), some (.inl a), some (.inl b), some (.inl (t : Int)), none, none, none] [] g 0 0 (fun v g => XF h g ∧ ∃ z, v = some (.inl z) ∧ QR (okd n a b) (FM (fun e => e ≤ 50 ∧ flw la (nl node code cm s n b.toNat) (s 0).toNat e)) z) := by
      intro w
      induction w with
      | zero =>
        intro t g ht xf hl hf
        have hJ := hI.xf xf
        have hM := hJ.mk
        apply bX9_delay_25
        case e1 => intro _; exact second g _ _ _ _ xf (fun x hx => hf x (by omega))
        all_goals first
          | exact hM.x
          | (rw [hM.p9, hM.s482]; done)
          | (rw [hM.p9, hM.s482]; decide)
          | (rw [hJ.m0]; intro q; omega)
      | succ w ihw =>
        intro t g ht xf hl hf
        have hJ := hI.xf xf
        have hM := hJ.mk
        apply bX9_delay_25
        case e1 => rw [hJ.m0]; intro q; omega
        case e2 =>
          intro _
          refine Ex.mono (eX9_isEdge (L := (s 0).toNat) hM (fun t ht => hl t (by omega)) (by omega) (by omega)) ?_
          rintro v g3 ⟨⟨z, rfl, z1, z2⟩, rfl⟩
          show V MX9_delay (d + 5) 46 _ [.inl z, .inl _, .inr _] g3 0 0 _
          apply bX9_delay_46
          case z1 => exact z1
          case r1 => exact ⟨by omega, by omega⟩
          case k1 =>
            rw [hM.p42, Int.toNat_natCast, show (t : Int) + 1 = ((t + 1 : Nat) : Int) by omega]
            have fx9 : FX (fun b => b = 499) g3 (jsX g3 499 t z) := FX.sX rfl
            refine ihw (t + 1) _ (by omega) (xf.trans ((fx9.fp (P' := fun b => b = 499) (fun _ q => q)).xf (fun a ha => by unfold sc; omega))) (fun x hx => ?_) (fun x hx => ?_)
            · rw [jX_sX, if_neg (by omega)]; exact hl x hx
            · rw [jX_sX]
              by_cases y : x = t
              · subst y; rw [if_pos ⟨rfl, rfl⟩]; exact ⟨z1, z2⟩
              · rw [if_neg (fun z => y z.2)]; exact hf x (by omega)
          all_goals first
            | (rw [hM.p42, hM.s499]; done)
            | omega
            | (rw [hM.p42, hM.s499]; refine Int.lt_of_le_of_lt (b := 999) ?_ (by decide); omega)
        all_goals first
          | exact hM.x
          | (rw [hM.p9, hM.s482]; done)
          | (rw [hM.p9, hM.s482]; decide)
    have h9 := fill ((s 0).toNat + 1) 0 g (by omega) xf hl (fun x hx => absurd hx (Nat.not_lt_zero _))
    exact h9
  all_goals first
    | exact hM.x
    | (rw [hI.m1]; omega)
end LD
