/-! ===== both sides: look ===== -/
section MI
variable {h g : jH} {node wi sn code cm s past T W : Nat → Int} {n nw nd ns u D o : Nat} {K : Int} {G : Nat → Nat}
/-- the best of the times before b -/
def lkI (G : Nat → Nat) (b0 l0 : Int) (b : Nat) (best least : Int) : Prop := (b = 0 ∧ best = b0 ∧ least = l0) ∨ ∃ e : Nat, e < b ∧ best = (e : Int) ∧ least = (G e : Int) ∧ (∀ f, f < b → G e ≤ G f) ∧ ∀ f, f < e → G e < G f
def LK (G : Nat → Nat) (L : Nat) (z : Int) : Prop := ∃ e : Nat, z = (e : Int) ∧ e ≤ L ∧ (∀ f, f ≤ L → G e ≤ G f) ∧ ∀ f, f < e → G e < G f
theorem LK.uniq {L : Nat} {z z' : Int} (h1 : LK G L z) (h2 : LK G L z') : z = z' := by
  obtain ⟨e, rfl, a, b, c⟩ := h1
  obtain ⟨e', rfl, a', b', c'⟩ := h2
  by_cases q : e < e'
  · have := c' e q; have := b e' a'; omega
  · by_cases q2 : e' < e
    · have := c e' q2; have := b' e a; omega
    · rw [show e = e' by omega]
theorem lkI_new {b0 l0 : Int} {b b' v : Nat} {best least : Int} (h1 : lkI G b0 l0 b best least) (hb : b < b') (hv : ∀ t, b ≤ t → t < b' → G t = v) (h2 : b = 0 ∨ (v : Int) < least) : lkI G b0 l0 b' (b : Int) (v : Int) := by
  have e0 : G b = v := hv b (Nat.le_refl b) hb
  refine Or.inr ⟨b, hb, rfl, by rw [e0], fun f hf => ?_, fun f hf => ?_⟩
  · by_cases q : b ≤ f
    · rw [e0, hv f q hf]; exact Nat.le_refl _
    · rcases h1 with ⟨z, -⟩ | ⟨e, e1, e2, e3, e4, e5⟩
      · omega
      · have := e4 f (by omega)
        rcases h2 with z | z
        · omega
        · omega
  · rcases h1 with ⟨z, -⟩ | ⟨e, e1, e2, e3, e4, e5⟩
    · omega
    · have := e4 f hf
      rcases h2 with z | z
      · omega
      · omega
theorem lkI_old {b0 l0 : Int} {b b' v : Nat} {best least : Int} (h1 : lkI G b0 l0 b best least) (hb0 : b ≠ 0) (hb : b < b') (hv : ∀ t, b ≤ t → t < b' → G t = v) (h2 : least ≤ (v : Int)) : lkI G b0 l0 b' best least := by
  rcases h1 with ⟨z, -⟩ | ⟨e, e1, e2, e3, e4, e5⟩
  · exact absurd z hb0
  · refine Or.inr ⟨e, by omega, e2, e3, fun f hf => ?_, e5⟩
    by_cases q : b ≤ f
    · rw [hv f q hf]; omega
    · exact e4 f (by omega)
theorem lkI_end {b0 l0 : Int} {L : Nat} {best least : Int} (h1 : lkI G b0 l0 (L + 1) best least) : LK G L best := by
  rcases h1 with ⟨z, -⟩ | ⟨e, e1, e2, e3, e4, e5⟩
  · omega
  · exact ⟨e, e2, by omega, fun f hf => e4 f (by omega), e5⟩
noncomputable def gtm (node code cm s : Nat → Int) (n a t : Nat) : Nat := gg (a : Int) (fun k => nl node code cm s n k t) n n
def lkS (node code cm s : Nat → Int) (n a : Nat) (z : Int) : Prop := (jand (a : Int) ((a : Int) - 1) = 0 ∧ z = -9) ∨ (jand (a : Int) ((a : Int) - 1) ≠ 0 ∧ LK (gtm node code cm s n a) (s 0).toNat z)
theorem lkS_u {a : Nat} {z z' : Int} (h1 : lkS node code cm s n a z) (h2 : lkS node code cm s n a z') : z = z' := by
  rcases h1 with ⟨x, y⟩ | ⟨x, y⟩ <;> rcases h2 with ⟨x', y'⟩ | ⟨x', y'⟩
  · omega
  · exact absurd x x'
  · exact absurd x' x
  · exact y.uniq y'
theorem eX8_look {d : Nat} (hI : IV h D node n nw nd wi sn ns code cm s past u K) (ho : jI h 2 10 = (o : Int)) (o6 : o ≤ 6) (hT : ∀ i, i < o → jX h 327 i = T i ∧ jX h 328 i = W i) :
    Ex MX8_look (d + 5) [.inr 2] h 0 0 (fun r g => XF h g ∧ ∃ (a : Nat) (z : Int), r = some (.inl z) ∧ ss node code cm s n T W o a ∧ lkS node code cm s n a z) := by
  have hn12 := hI.dg.1
  refine Ex_of_V tX8_look (Nat.le_of_ble_eq_true rfl) ?_
  apply bX8_look_0
  case e1 =>
    refine Ex.mono (eX8_agreeing hI ho o6 hT) ?_
    rintro r g ⟨a, rfl, xf, ha⟩
    have a12 := pow12 hn12 ha.1
    have hb : ∀ k, n ≤ k → k < 12 → ¬ bit (a : Int) k := fun k k1 k2 => bit_n hn12 (by omega) (by rw [shl_b n (by omega)]; have := ha.1; omega) k1 k2
    have hJ := hI.xf xf
    apply bX8_look_4
    focus
      refine Ex.mono (eJ6_bitCount a12) ?_
      rintro r g1 ⟨⟨z, rfl, hz⟩, rfl⟩
      apply bX8_look_9
      case q1 => intro q; exact ⟨xf, a, _, rfl, ha, Or.inl ⟨Classical.byContradiction fun y => q (hz.mpr y), rfl⟩⟩
      case e1 =>
        intro q
        have hne := hz.mp q
        clear hz
        refine Ex.mono (eX8_hist hJ) ?_
        rintro v g2 ⟨rfl, xf2, hJ2, cnt, T', hL⟩
        have xf3 := xf.trans xf2
        have hy := hJ2.x
        obtain ⟨h1, h2, h3, h4, h5, h6, h7, h8, h9, h10⟩ := id hL
        have hc : jI g2 (jP g2 2 11) 0 = (cnt : Int) := by rw [hy.p11]; exact h1
        apply bX8_look_31
        have key : ∀ c i b : Nat, i + c = cnt → (i < cnt → b = T' i) → (¬ i < cnt → b = (s 0).toNat + 1) → (i = 0 ↔ b = 0) → ∀ (best least : Int) u5, lkI (gtm node code cm s n a) 0 13 b best least → V MX8_look (d + 5) 39 [some (.inr 2), some (.inl (a : Int)), some (.inl best), some (.inl least), some (.inl (i : Int)), u5] [] g2 0 0 (fun r g => XF h g ∧ ∃ (a : Nat) (z : Int), r = some (.inl z) ∧ ss node code cm s n T W o a ∧ lkS node code cm s n a z) := by
          intro c
          induction c with
          | zero =>
            intro i b hi b1 b2 hib best least u5 hk
            have eb := b2 (by omega)
            rw [eb] at hk
            clear hib
            apply bX8_look_39
            case q1 => intro _; exact ⟨xf3, a, _, rfl, ha, Or.inr ⟨hne, lkI_end hk⟩⟩
            case e1 => rw [hc]; intro y; omega
            all_goals first
              | exact hy.s2
              | exact hJ2.hk
          | succ c ih =>
            intro i b hi b1 b2 hib best least u5 hk
            have eb := b1 (by omega)
            have hab := hL.aftb (i := i) (by omega)
            have hj1 : (i : Int) + 1 = ((i + 1 : Nat) : Int) := by omega
            have hT' : jX g2 (jP g2 (jP g2 2 11) 2) ((((i : Nat) : Int)).toNat) = (T' i : Int) := by rw [hy.p11, hy.hk.2.1, Int.toNat_natCast]; exact h7 i (by omega)
            have hgv : ∀ t, b ≤ t → t < aft cnt (s 0).toNat T' i → gtm node code cm s n a t = gg (a : Int) (jX g2 (332 + i)) 12 12 := by
              intro t t1 t2
              unfold gtm
              exact (gg_all hn12 hb (fun k hk => hL.val (by omega) hk (by omega) t2)).symm
            have hle := gg_le (set := (a : Int)) (row := jX g2 (332 + i)) (M := 12) 12
            have hz : (i + 1 = 0) ↔ aft cnt (s 0).toNat T' i = 0 := ⟨fun y => by omega, fun y => by omega⟩
            apply bX8_look_39
            case q1 => rw [hc]; clear hib hz; intro y; omega
            case e1 =>
              intro _
              rw [hy.p11]
              refine Ex.mono (eX3_greatestGroup hy.hk hy.hy (by omega)) ?_
              rintro r g3 ⟨rfl, rfl⟩
              apply bX8_look_61
              case k1 =>
                intro y
                rw [hj1]
                refine ih (i + 1) (aft cnt (s 0).toNat T' i) (by omega) (fun q => if_pos q) (fun q => if_neg (by omega)) hz _ _ _ (lkI_old hk ?_ (by omega) hgv y)
                intro z0
                rcases hk with ⟨-, -, k3⟩ | ⟨e, e1, -⟩
                · omega
                · omega
              case k2 =>
                intro y
                rw [hj1, hT', ← eb]
                exact ih (i + 1) (aft cnt (s 0).toNat T' i) (by omega) (fun q => if_pos q) (fun q => if_neg (by omega)) hz _ _ _ (lkI_new hk (by omega) hgv (Or.inr (by omega)))
              all_goals clear hib hz
              all_goals first
                | exact hy.s2
                | exact hJ2.hk
                | (rw [hJ2.ht]; done)
                | (intros; exact ⟨by omega, by omega⟩)
                | (intros; omega)
                | (intros; rw [hJ2.ht]; refine Int.lt_of_le_of_lt (b := 60) ?_ (by decide); omega)
            all_goals first
              | exact hy.s2
              | exact hJ2.hk
              | (rw [hJ2.ht]; done)
        exact key cnt 0 0 (by omega) (fun _ => h6.symm) (fun q => by omega) Iff.rfl _ _ _ (Or.inl ⟨rfl, rfl, rfl⟩)
      all_goals first
        | exact hJ.x.s2
        | exact hJ.hk
        | exact hJ.dk
        | exact hJ.rk
  all_goals exact hI.x.s2
theorem eX9_look {d : Nat} (hI : IV h D node n nw nd wi sn ns code cm s past u K) (ho : jI h 476 49 = (o : Int)) (o6 : o ≤ 6) (hT : ∀ i, i < o → jX h 503 (2 * i) = T i ∧ jX h 503 (2 * i + 1) = W i) :
    Ex MX9_look (d + 5) [.inr 476] h 0 0 (fun r g => XF h g ∧ ∃ (a : Nat) (z : Int), r = some (.inl z) ∧ ss node code cm s n T W o a ∧ lkS node code cm s n a z) := by
  have hn12 := hI.dg.1
  have hs0 := hI.si.1
  have hs1 := hI.si.2.1
  refine Ex_of_V tX9_look (Nat.le_of_ble_eq_true rfl) ?_
  apply bX9_look_0
  case e1 =>
    refine Ex.mono (eX9_seen hI ho o6 hT) ?_
    rintro r g ⟨a, rfl, xf, ha⟩
    have a12 := pow12 hn12 ha.1
    have hJ := hI.xf xf
    apply bX9_look_4
    case r1 => exact ⟨by omega, by omega⟩
    case q1 => intro q; exact ⟨xf, a, _, rfl, ha, Or.inl ⟨q, rfl⟩⟩
    case e1 =>
      intro hne
      refine Ex.mono (eX9_laysTurns hJ.mk hJ.es hJ.si) ?_
      rintro v g2 ⟨rfl, fx2, hT2⟩
      have xf3 : XF h g2 := xf.trans ((fx2.fp (P' := fun b => b = 496) (fun a ha => ha)).xf (fun a ha => by unfold sc; omega))
      apply bX9_look_20
      have key : ∀ c t : Nat, t + c = (s 0).toNat + 1 → ∀ (found fewest : Int) (g : jH) u5, XF h g → TM g (tn s) → lkI (gtm node code cm s n a) (-9) 0 t found fewest → V MX9_look (d + 5) 28 [some (.inr 476), some (.inl (a : Int)), some (.inl found), some (.inl fewest), some (.inl (t : Int)), u5] [] g 0 0 (fun r g => XF h g ∧ ∃ (a : Nat) (z : Int), r = some (.inl z) ∧ ss node code cm s n T W o a ∧ lkS node code cm s n a z) := by
        intro c
        induction c with
        | zero =>
          intro t ht found fewest g u5 xf hTm hk
          have hJ := hI.xf xf
          have hM := hJ.mk
          obtain rfl : t = (s 0).toNat + 1 := by omega
          have hng : ∀ P : Prop, ¬ (jX g (jP g 476 9) 0 < (((s 0).toNat + 1 : Nat) : Int)) → P := fun P q => absurd (by rw [hJ.m0]; omega) q
          apply bX9_look_28
          case q1 => intro _; exact ⟨xf, a, _, rfl, ha, Or.inr ⟨hne, lkI_end hk⟩⟩
          case k1 => intro q; exact hng _ q
          case e1 => intro q; exact hng _ q
          all_goals first
            | exact hM.x
            | (rw [hM.p9, hM.s482]; done)
            | (rw [hM.p9, hM.s482]; decide)
            | (rw [hM.p39, hM.s496]; done)
            | (intro q; exact hng _ q)
            | (intros; rw [hM.p39, hM.s496]; done)
        | succ c ih =>
          intro t ht found fewest g u5 xf hTm hk
          have hJ := hI.xf xf
          have hM := hJ.mk
          have htn : jX g (jP g 476 39) ((((t : Nat) : Int)).toNat) = jX g 496 t := by rw [hM.p39, Int.toNat_natCast]
          obtain ⟨y1, y2⟩ := hTm t (by omega)
          have hj1 : (t : Int) + 1 = ((t + 1 : Nat) : Int) := by omega
          apply bX9_look_28
          case q1 => rw [hJ.m0]; clear y2; intro z; omega
          case k1 =>
            rw [htn, hj1]
            intro _ z
            have hnt : ¬ tn s (t : Int) := fun y => by have := y2.mpr y; omega
            cases t with
            | zero => exact absurd tn_0 hnt
            | succ t' =>
              refine ih (t' + 1 + 1) (by omega) _ _ g _ xf hTm ?_
              rcases hk with ⟨z, -⟩ | ⟨e, e1, e2, e3, e4, e5⟩
              · omega
              · have es : gtm node code cm s n a (t' + 1) = gtm node code cm s n a t' := by
                  unfold gtm
                  rw [funext fun k => nl_stay (node := node) (code := code) (cm := cm) (n := n) (k := k) hnt]
                refine Or.inr ⟨e, by omega, e2, e3, fun f hf => ?_, e5⟩
                by_cases y : f = t' + 1
                · rw [y, es]; exact e4 t' (by omega)
                · exact e4 f (by omega)
          case e1 =>
            rw [htn]
            intro _ z
            have htt : tn s (t : Int) := by rcases y1 with w | w <;> first | exact absurd w z | exact y2.mp w
            refine Ex.mono (eX9_lay hJ) ?_
            rintro v g3 ⟨rfl, fx3, xf4, hv3⟩
            have xf5 := xf.trans xf4
            have hJ3 := hI.xf xf5
            have hM3 := hJ3.mk
            have hT3 : TM g3 (tn s) := hTm.eq (fx3.2.2.2.2.2 496 (by omega))
            apply bX9_look_55
            case e1 =>
              refine Ex.mono (eX9_mostAlike hM3 hJ3.m1 hn12) ?_
              rintro r g4 ⟨rfl, rfl⟩
              have eg : gg (a : Int) (jX g4 493) n n = gtm node code cm s n a t := by
                unfold gtm
                exact gg_cong (fun k hk => by rw [hv3 k hk, nl_turn htt]) n (Nat.le_refl n)
              rw [eg]
              have hgv : ∀ t', t ≤ t' → t' < t + 1 → gtm node code cm s n a t' = gtm node code cm s n a t := fun t' q1 q2 => by rw [show t' = t by omega]
              clear y2
              apply bX9_look_60
              case k1 =>
                intro q
                rw [hj1]
                refine ih (t + 1) (by omega) _ _ g4 _ xf5 hT3 (lkI_new hk (by omega) hgv (Or.inl ?_))
                rcases hk with ⟨w, -⟩ | ⟨e, e1, e2, -⟩
                · exact w
                · omega
              case k2 =>
                intro q q2
                rw [hj1]
                refine ih (t + 1) (by omega) _ _ g4 _ xf5 hT3 (lkI_old hk ?_ (by omega) hgv q2)
                intro z0
                rcases hk with ⟨-, w, -⟩ | ⟨e, e1, -⟩
                · exact q w
                · omega
              case k3 =>
                intro q q2
                rw [hj1]
                exact ih (t + 1) (by omega) _ _ g4 _ xf5 hT3 (lkI_new hk (by omega) hgv (Or.inr (by omega)))
              all_goals (intros; exact ⟨by omega, by omega⟩)
            all_goals exact hM3.x
          all_goals clear y2
          all_goals first
            | exact hM.x
            | (rw [hM.p9, hM.s482]; done)
            | (rw [hM.p9, hM.s482]; decide)
            | (rw [hM.p39, hM.s496]; done)
            | (intros; exact ⟨by omega, by omega⟩)
            | (intros; omega)
            | (intros; rw [hM.p39, hM.s496]; refine Int.lt_of_le_of_lt (b := 1001) ?_ (by decide); omega)
            | (intros; rw [hM.p39, hM.s496]; done)
      exact key ((s 0).toNat + 1) 0 (by omega) _ _ g2 _ xf3 hT2 (Or.inl ⟨rfl, rfl, rfl⟩)
    all_goals exact hJ.mk.x
  all_goals exact hI.mk.x
theorem pair_look {d d' : Nat} (hI : IE h K) : Ex MX8_look (d + 5) [.inr 2] h 0 0 (PR MX9_look (d' + 5) [.inr 476] K) := by
  obtain ⟨D, node, n, nw, nd, wi, sn, ns, code, cm, s, past, u, hI⟩ := hI
  obtain ⟨o, o1, o2, o3, o4⟩ : IO h := hI.2.2.2.2.2.2.1
  refine Ex.mono (eX8_look (T := jX h 327) (W := jX h 328) hI o1 o3 (fun i hi => ⟨rfl, rfl⟩)) ?_
  rintro r g ⟨xf, a, z, rfl, ha, hz⟩
  have hJ := hI.xf xf
  have e503 : jX g 503 = jX h 503 := (xf.2.2.2.1 503 (by unfold sc; omega)).1
  refine ⟨z, rfl, hJ.mk.x, Ex.mono (eX9_look (T := jX h 327) (W := jX h 328) hJ (by rw [xf.2.2.2.2.1 49 (by unfold sf; omega)]; exact o2) o3 (fun i hi => by rw [e503]; exact ⟨(o4 i hi).1.symm, (o4 i hi).2.1.symm⟩)) ?_⟩
  rintro r g2 ⟨xf2, b, z', rfl, hb, hz'⟩
  rw [ss_u hb ha] at hz'
  exact ⟨by rw [lkS_u hz' hz], (hJ.xf xf2).ie⟩
end MI
