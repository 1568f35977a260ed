/-! ===== class: [ and ]; model: ] ===== -/
section MW2
variable {h g h0 g1 : jH} {b : Nat → Int} {c : Nat} {node wi sn code cm : Nat → Int} {n nw nd ns D d p f : Nat} {op v : Int} {R : Option jA → jH → Prop}
theorem CI.opn (hC : CI h D b c p node n nw nd wi sn ns code cm op) (hv : v = -9 ∨ (0 ≤ v ∧ v < ns)) : CI (jsI h 49 2 (tp v)) D b c p node n nw nd wi sn ns code cm v := by
  obtain ⟨c1, c2, c3, c4, c5, c6, c7, c8, c9, c10⟩ := hC
  have e3 : ∀ k, jI (jsI h 49 2 (tp v)) 3 k = jI h 3 k := fun k => by rw [jI_sI, if_neg (by omega)]
  have eD : jI (jsI h 49 2 (tp v)) D = jI h D := funext fun k => by rw [jI_sI, if_neg (by omega)]
  refine ⟨c1, ⟨c2.1, c2.2.1, c2.2.2.1, by rw [e3]; exact c2.2.2.2.1, c2.2.2.2.2⟩, ⟨c3.1, by rw [e3]; exact c3.2.1, by rw [e3]; exact c3.2.2.1, by rw [e3]; exact c3.2.2.2⟩, c4, c5, c6, ?_, c8, by rw [jI_sI, if_pos ⟨rfl, rfl⟩], hv⟩
  unfold DRep
  rw [eD]
  exact c7
theorem CI.scope {y : Int} (hC : CI h D b c p node n nw nd wi sn ns code cm op) (hs : ns ≤ 5) (hd : dep wi ns op ≤ 3) (hy : 0 ≤ y ∧ y ≤ 25) (hf : nmv node n wi sn ns op y = -9) :
    CI (jsI (jsX (jsX h (D + 5) ns (tp op)) (D + 6) ns y) D 3 ((ns : Int) + 1)) D b c p node n nw nd (up wi ns op) (up sn ns y) (ns + 1) code cm op := by
  obtain ⟨c1, c2, c3, c4, c5, c6, c7, c8, c9, c10⟩ := hC
  obtain ⟨f1, f2⟩ := nmv_free hf
  have e3 : ∀ k, jI (jsI (jsX (jsX h (D + 5) ns (tp op)) (D + 6) ns y) D 3 ((ns : Int) + 1)) 3 k = jI h 3 k := fun k => by rw [jI_sI, if_neg (by omega)]; rfl
  have eD : ∀ k, k ≠ 3 → jI (jsI (jsX (jsX h (D + 5) ns (tp op)) (D + 6) ns y) D 3 ((ns : Int) + 1)) D k = jI h D k := fun k hk => by rw [jI_sI, if_neg (by omega)]; rfl
  have eX : ∀ a, a ≠ D + 5 → a ≠ D + 6 → jX (jsI (jsX (jsX h (D + 5) ns (tp op)) (D + 6) ns y) D 3 ((ns : Int) + 1)) a = jX h a := fun a h5 h6 => funext fun k => by
    rw [jX_sI, jX_sX, if_neg (fun z => h6 z.1), jX_sX, if_neg (fun z => h5 z.1)]
  obtain ⟨r0, r1, r2, r3, r4, r5⟩ := id c7
  refine ⟨c1, ⟨c2.1, c2.2.1, c2.2.2.1, by rw [e3]; exact c2.2.2.2.1, c2.2.2.2.2.1, by rw [eX 4 (by omega) (by omega)]; exact c2.2.2.2.2.2⟩, ⟨c3.1, by rw [e3]; exact c3.2.1, by rw [e3]; exact c3.2.2.1, by rw [e3]; exact c3.2.2.2⟩, c4, c5, c6, ⟨by rw [eD 0 (by omega)]; exact r0, by rw [eD 1 (by omega)]; exact r1, by rw [eD 2 (by omega)]; exact r2, ?_, fun k hk => ?_, fun k hk => ?_⟩, DG_scope c8 hs c10 hd hy f1 f2, ?_, ?_⟩
  · rw [jI_sI, if_pos ⟨rfl, rfl⟩]; omega
  · have h12 := c8.1
    unfold NRep
    rw [eX (D + 1) (by omega) (by omega), eX (D + 3) (by omega) (by omega), eX (D + 4) (by omega) (by omega), eX (D + 2) (by omega) (by omega), eX (D + 20) (by omega) (by omega), eX (D + 8 + k) (by omega) (by omega)]
    exact r4 k hk
  · rw [jX_sI, jX_sX, if_neg (show ¬ (D + 5 = D + 6 ∧ k = ns) by omega), jX_sX, jX_sX]
    by_cases z : k = ns
    · rw [if_pos ⟨rfl, z⟩, if_pos ⟨rfl, z⟩, z, up_s, up_s]; exact ⟨rfl, rfl⟩
    · rw [if_neg (fun w => z w.2), if_neg (fun w => z w.2), up_o z, up_o z, jX_sX, if_neg (by omega)]
      exact r5 k (by omega)
  · rw [jI_sI, if_neg (by omega)]; exact c9
  · omega
theorem eX5_readOpening (hC : CI h D b c p node n nw nd wi sn ns code cm op) (hp : p < c) : Ex MX5_readOpening (d + 1) [.inr 49] h 0 0 (SPost MX9_opens 4 h D b c p node n nw nd wi sn ns code cm op) := by
  obtain ⟨c1, c2, c3, c4, c5, c6, c7, c8, c9, c10⟩ := id hC
  have n12 := c8.1
  have ns6 := c8.2.2.2.1
  have hd4 := c8.d4 c10
  have ept : tp op < 0 ↔ op = -9 := by unfold tp; split <;> omega
  have hn1 := tnx_b (b := b) (c := c) c3.1
  have hn1' := hn1.2 hp
  refine Ex_of_V tX5_readOpening (Nat.le_of_ble_eq_true rfl) ?_
  apply bX5_readOpening_0
  case e1 =>
    rw [c1.2.2, c9]
    refine Ex.mono (eX2_depth c4 (fun k hk => (c7.2.2.2.2.2 k hk).1) ns6 c8.wiB c10 hd4) ?_
    rintro r g ⟨rfl, rfl⟩
    apply bX5_readOpening_11
    case q1 =>
      intro z
      exact Or.inr ⟨rfl, p, IFr.rf, ⟨c3.2.1, c3.1⟩, fun d' g1 R hT hk g' hI => opens_0 hT n12 hI (fun y => by omega) (fun _ => hk)⟩
    case e1 =>
      intro z
      have hd3 : dep wi ns op ≤ 3 := by omega
      rw [c1.2.1]
      refine Ex.mono hC.next ?_
      rintro r g2 ⟨rfl, f2, hC2⟩
      obtain ⟨b1, b2, b3, b4, b5, b6, b7, b8, b9, b10⟩ := id hC2
      have el : jlet (jI g2 (jP g2 49 0) 4) = if tso b c (tnx b c p) = 1 then tva b c (tnx b c p) else -9 := by rw [b1.2.1, b3.2.2.2]; exact lk_l
      apply bX5_readOpening_24
      case q1 =>
        rw [el]
        intro y
        have hs : tso b c (tnx b c p) ≠ 1 := by
          intro y2
          rw [if_pos y2] at y
          have := tva_name y2
          omega
        exact Or.inr ⟨rfl, tnx b c p, f2.ifr, ⟨b3.2.1, b3.1⟩, fun d' g1 R hT hk g' hI => opens_0 hT n12 hI (fun _ g3 u1 hI3 => opens_22 hT c8 c10 hI3 (fun _ => hk) (fun y2 => absurd y2 hs) (fun y2 => absurd y2 hs) (fun y2 => absurd y2 hs) (fun y2 => absurd y2 hs)) (fun y2 => by omega)⟩
      case e1 =>
        rw [el, b1.2.2, b9]
        intro y
        have hs : tso b c (tnx b c p) = 1 := Classical.byContradiction fun y2 => y (if_neg y2)
        have hv := tva_name hs
        have hlt : tnx b c p < c := tso_lt (b := b) (by rw [hs]; decide)
        have hn2 := (tnx_b (b := b) (c := c) hn1.1).2 hlt
        rw [if_pos hs]
        refine Ex.mono (eX2_nm b4 b7 b8 (by omega)) ?_
        rintro r g3 ⟨rfl, rfl⟩
        have hb1 : fN node n op (tva b c (tnx b c p)) = -9 ∨ (0 ≤ fN node n op (tva b c (tnx b c p)) ∧ fN node n op (tva b c (tnx b c p)) < n) := fN_b
        have hb2 : fS wi sn ns op (tva b c (tnx b c p)) = -9 ∨ (0 ≤ fS wi sn ns op (tva b c (tnx b c p)) ∧ fS wi sn ns op (tva b c (tnx b c p)) < ns) := fS_b
        have v1 : fN node n op (tva b c (tnx b c p)) ≠ -9 → nmv node n wi sn ns op (tva b c (tnx b c p)) = fN node n op (tva b c (tnx b c p)) := fun z => if_pos z
        have v2 : fN node n op (tva b c (tnx b c p)) = -9 → fS wi sn ns op (tva b c (tnx b c p)) ≠ -9 → nmv node n wi sn ns op (tva b c (tnx b c p)) = 100 + fS wi sn ns op (tva b c (tnx b c p)) := fun z z2 => by unfold nmv nmc; rw [if_neg (by omega), if_pos z2]
        have v3 : fN node n op (tva b c (tnx b c p)) = -9 → fS wi sn ns op (tva b c (tnx b c p)) = -9 → nmv node n wi sn ns op (tva b c (tnx b c p)) = -9 := fun z z2 => by unfold nmv nmc; rw [if_neg (by omega), if_neg (by omega)]
        apply bX5_readOpening_52
        case q1 =>
          intro z z2
          have h1 : fN node n op (tva b c (tnx b c p)) ≠ -9 := by
            intro y2
            by_cases y3 : fS wi sn ns op (tva b c (tnx b c p)) = -9
            · exact z (v3 y2 y3)
            · have := v2 y2 y3; omega
          exact Or.inr ⟨rfl, tnx b c p, f2.ifr, ⟨b3.2.1, b3.1⟩, fun d' g1 R hT hk g' hI => opens_0 hT n12 hI (fun _ g4 u1 hI3 => opens_22 hT c8 c10 hI3 (fun y2 => absurd hs y2) (fun _ _ => hk) (fun _ y2 => absurd y2 h1) (fun _ y2 => absurd y2 h1) (fun _ y2 => absurd y2 h1)) (fun y2 => by omega)⟩
        case e1 =>
          intro z z2
          have h1 : fN node n op (tva b c (tnx b c p)) = -9 := by
            apply Classical.byContradiction
            intro y2
            have := v1 y2
            omega
          have h2 : fS wi sn ns op (tva b c (tnx b c p)) ≠ -9 := fun y2 => z (v3 h1 y2)
          have ev := v2 h1 h2
          have hC3 := hC2.opn (v := fS wi sn ns op (tva b c (tnx b c p))) (by omega)
          have et : tp (fS wi sn ns op (tva b c (tnx b c p))) = fS wi sn ns op (tva b c (tnx b c p)) := by unfold tp; rw [if_neg (by omega)]
          rw [et] at hC3
          rw [ev, show 100 + fS wi sn ns op (tva b c (tnx b c p)) - 100 = fS wi sn ns op (tva b c (tnx b c p)) by omega, b1.2.1]
          refine Ex.mono hC3.next ?_
          rintro r g4 ⟨rfl, f4, hC4⟩
          apply bX5_readOpening_110
          refine Or.inl ⟨rfl, tnx b c (tnx b c p), n, nw, nd, ns, node, wi, sn, code, cm, _, hC4, (f2.ifr.trans IFr.s49).trans f4.ifr, by omega, fun d' g1 R hT hk _ g' hI => ?_⟩
          exact opens_0 hT n12 hI (fun _ g5 u1 hI3 => opens_22 hT c8 c10 hI3 (fun y2 => absurd hs y2) (fun _ y2 => absurd h1 y2) (fun _ _ _ => hk) (fun _ _ y2 => absurd y2 h2) (fun _ _ y2 => absurd y2 h2)) (fun y2 => by omega)
        case q2 =>
          rw [b1.2.2, b7.2.2.2.1]
          intro z z2 _
          have h1 : fN node n op (tva b c (tnx b c p)) = -9 := by
            apply Classical.byContradiction
            intro y2
            have := v1 y2
            omega
          have h2 : fS wi sn ns op (tva b c (tnx b c p)) = -9 := by
            apply Classical.byContradiction
            intro y2
            have := v2 h1 y2
            omega
          exact Or.inr ⟨rfl, tnx b c p, f2.ifr, ⟨b3.2.1, b3.1⟩, fun d' g1 R hT hk g' hI => opens_0 hT n12 hI (fun _ g4 u1 hI3 => opens_22 hT c8 c10 hI3 (fun y2 => absurd hs y2) (fun _ y2 => absurd h1 y2) (fun _ _ y2 => absurd h2 y2) (fun _ _ _ _ => hk) (fun _ _ _ y2 => by omega)) (fun y2 => by omega)⟩
        case e2 => intro z _ z2; omega
        case e3 =>
          rw [b1.2.2, b7.2.2.2.1, b9]
          intro z z2
          have h1 : fN node n op (tva b c (tnx b c p)) = -9 := by
            apply Classical.byContradiction
            intro y2
            have := v1 y2
            omega
          have h2 : fS wi sn ns op (tva b c (tnx b c p)) = -9 := by
            apply Classical.byContradiction
            intro y2
            have := v2 h1 y2
            omega
          obtain ⟨e0, e1, e2, e3, e4, e5, e6, e7, e8, e9, e10, e11, e12, e13, e14, e15, -⟩ := id b4
          have hC3 := hC2.scope (y := tva b c (tnx b c p)) (by omega) hd3 hv z
          refine Ex_of_V tX2_addScope (Nat.le_of_ble_eq_true rfl) ?_
          apply bX2_addScope_0
          case q1 => rw [b7.2.2.2.1]; intro y2; omega
          case q2 =>
            rw [b7.2.2.2.1, e5, e6, Int.toNat_natCast]
            intro _
            generalize hgg : jsI (jsX (jsX g3 (D + 5) ns (tp op)) (D + 6) ns (tva b c (tnx b c p))) D 3 ((ns : Int) + 1) = gg2 at hC3
            have hfr : IFr D g3 gg2 := by rw [← hgg]; exact ((IFr.sX (by omega)).trans (IFr.sX (by omega))).trans (IFr.sI (by omega))
            have hC4 := hC3.opn (v := (ns : Int)) (by omega)
            have et : tp (ns : Int) = (ns : Int) := by unfold tp; rw [if_neg (by omega)]
            rw [et] at hC4
            apply bX5_readOpening_85
            case r1 => exact ⟨by omega, by omega⟩
            case r2 => intro _; exact ⟨by omega, by omega⟩
            case q1 => intro y2; omega
            case e1 =>
              intro _
              rw [show (100 : Int) + (ns : Int) - 100 = (ns : Int) by omega, hC3.1.2.1]
              refine Ex.mono hC4.next ?_
              rintro r g5 ⟨rfl, f5, hC5⟩
              apply bX5_readOpening_110
              refine Or.inl ⟨rfl, tnx b c (tnx b c p), n, nw, nd, ns + 1, node, _, _, code, cm, _, hC5, ((f2.ifr.trans hfr).trans IFr.s49).trans f5.ifr, by omega, fun d' g1 R hT hk _ g' hI => ?_⟩
              exact opens_0 hT n12 hI (fun _ g6 u1 hI3 => opens_22 hT c8 c10 hI3 (fun y2 => absurd hs y2) (fun _ y2 => absurd h1 y2) (fun _ _ y2 => absurd h2 y2) (fun _ _ _ y2 => by omega) (fun _ _ _ _ => hk)) (fun y2 => by omega)
            all_goals first
              | exact hC3.1.1
              | (rw [hC3.1.2.1]; exact hC3.2.1.1)
              | (intros; rw [hC3.1.2.1]; exact hC3.2.1.1)
          all_goals (try rw [b7.2.2.2.1])
          all_goals first
            | exact e0
            | (rw [e5, e14]; done)
            | (rw [e6, e15]; done)
            | (intros; exact ⟨by omega, by omega⟩)
            | (intros; omega)
            | (intros; rw [e5, e14]; refine Int.lt_of_le_of_lt (b := 5) ?_ (by decide); omega)
            | (intros; rw [e6, e15]; refine Int.lt_of_le_of_lt (b := 5) ?_ (by decide); omega)
        all_goals first
          | exact b1.1
          | (rw [b1.2.1]; exact b2.1)
          | (intros; rw [b1.2.1]; exact b2.1)
          | (rw [b1.2.2]; exact b4.1)
          | (intros; rw [b1.2.2]; exact b4.1)
          | (intros; exact ⟨by omega, by omega⟩)
      all_goals first
        | exact b1.1
        | (rw [b1.2.1]; exact b2.1)
        | (rw [b1.2.2]; exact b4.1)
    all_goals first
      | exact c1.1
      | (rw [c1.2.1]; exact c2.1)
  all_goals first
    | exact c1.1
    | (rw [c1.2.2]; exact c4.1)
/-- ] -/
theorem eX9_closes (hT : TXM g1 b c) (hG : DG node n nw nd wi sn ns code cm) (hop : op = -9 ∨ (0 ≤ op ∧ op < ns)) (hI : MI g1 g b c p node n nw nd wi sn ns code cm op)
    (k1 : op = -9 → ∀ g, FI g1 g p → R none g) (k2 : op ≠ -9 → ∀ g, MI g1 g b c (tnx b c p) node n nw nd wi sn ns code cm (wi op.toNat) → R none g) : Ex MX9_closes (d + 3) [.inr 476] g 0 0 R := by
  have hT2 := hI.txm hT
  have hM := hT2.1
  have h20 := hI.2.2.1
  have h30 := hI.2.2.2.2.2.2.1
  have h31 := hI.2.2.2.2.2.2.2.1
  have ns6 := hG.2.2.2.1
  have hd4 := hG.d4 hop
  refine Ex_of_V tX9_closes (Nat.le_of_ble_eq_true rfl) ?_
  apply bX9_closes_0
  case e1 =>
    rw [h30]
    intro z
    refine Ex.mono (eX9_due0 hM h20) ?_
    rintro r g2 ⟨rfl, rfl⟩
    have hF := hI.flt
    apply bX9_closes_18
    case q1 => intro _; exact k1 z _ hF
    case e1 => intro y; exact absurd y hF.ne
    all_goals first
      | exact (hF.mk hT).x
      | (intro y; exact absurd y hF.ne)
      | (rw [(hF.mk hT).p25, (hF.mk hT).s488]; done)
  case e2 =>
    rw [h30]
    intro z
    refine Ex.mono (eX9_due1 hM) ?_
    rintro r g2 ⟨rfl, rfl⟩
    have hdp := dep_s (x := op) hG.wiB (by omega) (by omega)
    apply bX9_closes_18
    case q1 => intro y; exact absurd h20 y
    case r1 => rw [h31]; intro _; exact ⟨by omega, by omega⟩
    case e1 =>
      intro _
      rw [h30, h31, hM.p25]
      obtain ⟨m1, m2, m3, m4, m5, m6, m7, m8, m9, m10⟩ := id hI
      have ew : jX g2 488 op.toNat = wi op.toNat := (m4.2.2.2 op.toNat (by omega)).1
      rw [ew]
      have hI2 : MI g1 (jsI (jsI g2 476 30 (wi op.toNat)) 476 31 ((dep wi ns op : Int) - 1)) b c p node n nw nd wi sn ns code cm (wi op.toNat) := by
        have e : ∀ k, k ≠ 30 → k ≠ 31 → jI (jsI (jsI g2 476 30 (wi op.toNat)) 476 31 ((dep wi ns op : Int) - 1)) 476 k = jI g2 476 k := fun k h1 h2 => by rw [jI_sI, if_neg (by omega), jI_sI, if_neg (by omega)]
        refine ⟨(m1.trans (MF.sI (by unfold PFd; omega))).trans (MF.sI (by unfold PFd; omega)), ⟨m2.1, by rw [e 16 (by omega) (by omega)]; exact m2.2.1, by rw [e 17 (by omega) (by omega)]; exact m2.2.2.1, by rw [e 18 (by omega) (by omega)]; exact m2.2.2.2.1, fun q => by rw [e 19 (by omega) (by omega)]; exact m2.2.2.2.2 q⟩, by rw [e 20 (by omega) (by omega)]; exact m3, ⟨by rw [e 22 (by omega) (by omega)]; exact m4.1, by rw [e 27 (by omega) (by omega)]; exact m4.2.1, m4.2.2⟩, by rw [e 23 (by omega) (by omega)]; exact m5, by rw [e 24 (by omega) (by omega)]; exact m6, ?_, ?_, m9, m10⟩
        · rw [jI_sI, if_neg (by omega), jI_sI, if_pos ⟨rfl, rfl⟩]
        · rw [jI_sI, if_pos ⟨rfl, rfl⟩, hdp]; omega
      refine Ex.mono (eX9_next (hI2.txm hT) (ten_b hI2.2.1.1).1 hI2.2.1.2.1) ?_
      rintro r g3 ⟨rfl, f3, hq⟩
      apply bX9_closes_54
      exact k2 z _ (hI2.nf f3 hq)
    all_goals (try rw [h30])
    all_goals first
      | exact hM.x
      | (rw [hM.p25, hM.s488]; done)
      | (intros; omega)
      | (intros; rw [hM.p25, hM.s488]; refine Int.lt_of_le_of_lt (b := 5) ?_ (by decide); omega)
  all_goals exact hM.x
theorem eX5_readClosing (hC : CI h D b c p node n nw nd wi sn ns code cm op) (hp : p < c) : Ex MX5_readClosing (d + 1) [.inr 49] h 0 0 (SPost MX9_closes 3 h D b c p node n nw nd wi sn ns code cm op) := by
  obtain ⟨c1, c2, c3, c4, c5, c6, c7, c8, c9, c10⟩ := id hC
  obtain ⟨e0, e1, e2, e3, e4, e5, e6, e7, e8, e9, e10, e11, e12, e13, e14, e15, -⟩ := id c4
  have ns6 := c8.2.2.2.1
  have hn1 := tnx_b (b := b) (c := c) c3.1
  have hn1' := hn1.2 hp
  have ept : 0 ≤ tp op ↔ op ≠ -9 := by unfold tp; split <;> omega
  have et : op ≠ -9 → tp op = op := fun z => by unfold tp; rw [if_neg z]
  refine Ex_of_V tX5_readClosing (Nat.le_of_ble_eq_true rfl) ?_
  apply bX5_readClosing_0
  case q1 =>
    rw [c9]
    intro z
    have hop : op = -9 := Classical.byContradiction fun y => z (ept.mpr y)
    exact Or.inr ⟨rfl, p, IFr.rf, ⟨c3.2.1, c3.1⟩, fun d' g1 R hT hk g' hI => eX9_closes hT c8 c10 hI (fun _ => hk) (fun y => absurd hop y)⟩
  case e1 =>
    rw [c9, c1.2.1, c1.2.2]
    intro z
    have hop := ept.mp z
    rw [et hop, e5, (c7.2.2.2.2.2 op.toNat (by omega)).1]
    have hwi := c8.wiB op.toNat (by omega)
    refine Ex.mono (hC.opn (v := wi op.toNat) (by omega)).next ?_
    rintro r g2 ⟨rfl, f2, hC2⟩
    apply bX5_readClosing_32
    exact Or.inl ⟨rfl, tnx b c p, n, nw, nd, ns, node, wi, sn, code, cm, _, hC2, IFr.s49.trans f2.ifr, hn1', fun d' g1 R hT hk _ g' hI => eX9_closes hT c8 c10 hI (fun y => absurd y hop) (fun _ => hk)⟩
  all_goals (try rw [c9])
  all_goals clear ept
  all_goals first
    | exact c1.1
    | (rw [c1.2.1]; exact c2.1)
    | (intros; rw [c1.2.1]; exact c2.1)
    | (rw [c1.2.2]; exact e0)
    | (rw [c1.2.2, e5, e14]; done)
    | (intros; omega)
    | (intro z; rw [c1.2.2, e5, e14]; refine Int.lt_of_le_of_lt (b := 5) ?_ (by decide); unfold tp at z ⊢; split <;> omega)
end MW2
