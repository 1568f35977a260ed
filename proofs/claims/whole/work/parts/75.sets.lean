/-! ===== both sides: sets ===== -/
section LV
variable {h g : jH} {node wi sn code cm s past s' past' : Nat → Int} {n nw nd ns u u' D : Nat} {K K' : Int}
theorem shl_w : ∀ b : Nat, b < 9 → 1 ≤ jshl 1 (b : Int) ∧ jshl 1 (b : Int) ≤ 256 := by decide +kernel
theorem pair_sets {d d' : Nat} {a v : Int} (hI : IE h K) (hK : K ≤ 9999) : Ex MX8_sets (d + 6) [.inr 2, .inl a, .inl v] h 0 0 (PR MX9_sets (d' + 3) [.inr 476, .inl a, .inl v] K) := by
  obtain ⟨D, node, n, nw, nd, wi, sn, ns, code, cm, s, past, u, hI⟩ := hI
  have hx := hI.x
  have hM := hI.mk
  obtain ⟨i0, i1, i2, i3, i4, i5, i6, i7, i8, i9, i10⟩ := id hI.si
  have hu6 := hI.u6
  obtain ⟨hpr, hep, heu⟩ := hI.2.2.2.1
  obtain ⟨d1, d2, d3, d4⟩ := hI.dd
  obtain ⟨m1, m2, m3, m4, m5, m6, m7, m8, m9⟩ := id hI.md
  have hn12 := hI.dg.1
  have wn := hI.dg.wn
  have wd := hI.dg.2.2.2.2.2.1
  have hnb := hI.dg.2.2.2.2.1
  have kd : ∀ i, i < n → jX h (jP h (jP h 2 1) 4) i = node (6 * i) := fun i hi => by rw [d2, d3.2.1]; exact (hI.dr.2.2.2.2.1 i hi).1
  have ks : jS h (jP h (jP h 2 1) 4) = (16, 12) := by rw [d2, d3.2.1]; exact d3.2.2.2.2.2.2.2.2.2.2.1
  have kb : ∀ i, i < n → node (6 * i) = 0 → jX h (jP h (jP h 2 1) 5) i = node (6 * i + 1) := fun i hi h0 => by rw [d2, d3.2.2.1]; exact (hI.dr.2.2.2.2.1 i hi).2.2.2.1 h0
  have kbs : jS h (jP h (jP h 2 1) 5) = (16, 12) := by rw [d2, d3.2.2.1]; exact d3.2.2.2.2.2.2.2.2.2.2.2.1
  have k6 : jP h 50 6 = 52 := hx.k50.2.2.1
  have kv : ∀ i, i < n → node (6 * i) = 0 → jX h (jP h (jP h 2 4) 6) i = s (5 + wr node i) := fun i hi h0 => by rw [hx.p4, k6]; exact hI.rr.2.2.2.2.2.1 i hi h0
  have kvs : jS h (jP h (jP h 2 4) 6) = (16, 12) := by rw [hx.p4, k6]; exact hx.k50.2.2.2.2.1
  have k0 : 0 ≤ a → jX h (jP h 476 0) ((6 * a + 0).toNat) = node (6 * a.toNat) := fun q => by rw [hM.p0, m5, show (6 * a + 0).toNat = 6 * a.toNat by omega]
  have k1 : 0 ≤ a → jX h (jP h 476 0) ((6 * a + 1).toNat) = node (6 * a.toNat + 1) := fun q => by rw [hM.p0, m5, show (6 * a + 1).toNat = 6 * a.toNat + 1 by omega]
  have k5 : 0 ≤ a → jX h (jP h 476 0) ((6 * a + 5).toNat) = node (6 * a.toNat + 5) := fun q => by rw [hM.p0, m5, show (6 * a + 5).toNat = 6 * a.toNat + 5 by omega]
  have wb : 0 ≤ a → a < n → node (6 * a.toNat) = 0 → 0 ≤ node (6 * a.toNat + 5) ∧ node (6 * a.toNat + 5) < 6 := fun q1 q2 q3 => wn.2 a.toNat (by omega) q3
  have wt : ∀ q : 0 ≤ a ∧ a < n ∧ node (6 * a.toNat) = 0, 1 ≤ jshl 1 (node (6 * a.toNat + 1)) ∧ jshl 1 (node (6 * a.toNat + 1)) ≤ 256 := fun q => by
    have := (hnb a.toNat (by omega)).1
    obtain ⟨b, hb⟩ : ∃ b : Nat, node (6 * a.toNat + 1) = (b : Int) := ⟨(node (6 * a.toNat + 1)).toNat, by omega⟩
    rw [hb]
    exact shl_w b (by omega)
  -- the two sides' first questions
  have c8 : (0 ≤ a ∧ a < jI h (jP h 2 1) 0 ∧ jX h (jP h (jP h 2 1) 4) a.toNat = 0) ↔ (0 ≤ a ∧ a < n ∧ node (6 * a.toNat) = 0) := by
    rw [hI.n0]
    constructor
    · rintro ⟨q1, q2, q3⟩
      rw [kd _ (by omega)] at q3
      exact ⟨q1, q2, q3⟩
    · rintro ⟨q1, q2, q3⟩
      exact ⟨q1, q2, by rw [kd _ (by omega)]; exact q3⟩
  have c9 : (0 ≤ a ∧ a ≤ jI h 476 1 - 1 ∧ jX h (jP h 476 0) ((6 * a + 0).toNat) = 0) ↔ (0 ≤ a ∧ a < n ∧ node (6 * a.toNat) = 0) := by
    rw [m1]
    constructor
    · rintro ⟨q1, q2, q3⟩
      rw [k0 q1] at q3
      exact ⟨q1, by omega, q3⟩
    · rintro ⟨q1, q2, q3⟩
      exact ⟨q1, by omega, by rw [k0 q1]; exact q3⟩
  have bad : ¬ (0 ≤ a ∧ a < n ∧ node (6 * a.toNat) = 0) → PR MX9_sets (d' + 3) [.inr 476, .inl a, .inl v] K (some (.inl (-1))) h := by
    intro q
    refine pr_same hI (Ex_of_V tX9_sets (Nat.le_of_ble_eq_true rfl) ?_)
    apply bX9_sets_0
    case q1 => intro _; exact ⟨rfl, rfl⟩
    all_goals (try rw [c9])
    all_goals first
      | exact hM.x
      | (rw [hM.p9, hM.s482]; done)
      | (rw [hM.p0, hM.s477]; done)
      | (intro z; exact absurd z q)
      | (intros; omega)
  have bad2 : (0 ≤ a ∧ a < n ∧ node (6 * a.toNat) = 0) → ¬ (0 ≤ v ∧ v < jshl 1 (node (6 * a.toNat + 1))) → PR MX9_sets (d' + 3) [.inr 476, .inl a, .inl v] K (some (.inl (-1))) h := by
    intro q q2
    have hw := wt q
    refine pr_same hI (Ex_of_V tX9_sets (Nat.le_of_ble_eq_true rfl) ?_)
    apply bX9_sets_0
    case q3 => intro _ _; exact ⟨rfl, rfl⟩
    case q1 => rw [c9]; intro z; exact absurd q z
    all_goals (try rw [c9])
    all_goals (try rw [k1 q.1])
    all_goals first
      | exact hM.x
      | (rw [hM.p9, hM.s482]; done)
      | (rw [hM.p0, hM.s477]; done)
      | (intro _ z; exact absurd ⟨z.1, by omega⟩ q2)
      | (intros; exact ⟨by omega, by omega⟩)
      | (intros; rw [hM.p0, hM.s477]; refine Int.lt_of_le_of_lt (b := 71) ?_ (by decide); omega)
      | (intros; omega)
  have same : ∀ q : (0 ≤ a ∧ a < n ∧ node (6 * a.toNat) = 0), (0 ≤ v ∧ v < jshl 1 (node (6 * a.toNat + 1))) → s (5 + wr node a.toNat) = v → PR MX9_sets (d' + 3) [.inr 476, .inl a, .inl v] K (some (.inl (-2))) h := by
    intro q q2 q3
    have hw := wt q
    have w5 := wb q.1 q.2.1 q.2.2
    have e5 : (5 + node (6 * a.toNat + 5)).toNat = 5 + wr node a.toNat := by unfold wr; omega
    refine pr_same hI (Ex_of_V tX9_sets (Nat.le_of_ble_eq_true rfl) ?_)
    apply bX9_sets_0
    case q2 => intro _ _ _; exact ⟨rfl, rfl⟩
    case q1 => rw [c9]; intro z; exact absurd q z
    case q3 => rw [k1 q.1]; intro _ z; exact absurd ⟨q2.1, by omega⟩ z
    case e1 => rw [k5 q.1, hM.p9, hI.es, e5]; intro _ _ z; exact absurd q3 z
    all_goals (try rw [c9])
    all_goals (try rw [k1 q.1])
    all_goals (try rw [k5 q.1])
    all_goals first
      | exact hM.x
      | (rw [hM.p9, hM.s482]; done)
      | (rw [hM.p0, hM.s477]; done)
      | (intros; exact ⟨by omega, by omega⟩)
      | (intros; rw [hM.p0, hM.s477]; refine Int.lt_of_le_of_lt (b := 71) ?_ (by decide); omega)
      | (intros; rw [hM.p9, hM.s482]; refine Int.lt_of_le_of_lt (b := 208) ?_ (by decide); omega)
      | (intros; omega)
  have go : ∀ q : (0 ≤ a ∧ a < n ∧ node (6 * a.toNat) = 0), (0 ≤ v ∧ v < jshl 1 (node (6 * a.toNat + 1))) → s (5 + wr node a.toNat) ≠ v → Ex MX4_remember (d + 5) [.inr (jP h 2 5), .inr (jP h 2 4)] h 0 0 (fun r h2 => V MX8_sets (d + 6) 56 [some (.inr 2), some (.inl a), some (.inl v)] (r.toList ++ []) h2 0 0 (PR MX9_sets (d' + 3) [.inr 476, .inl a, .inl v] K)) := by
    intro q q2 hne
    have hw := wt q
    have w5 := wb q.1 q.2.1 q.2.2
    have ew : node (6 * a.toNat + 5) = ((wr node a.toNat : Nat) : Int) := by unfold wr; omega
    have w6 : wr node a.toNat < 6 := by omega
    have ea : ((a.toNat : Nat) : Int) = a := Int.toNat_of_nonneg q.1
    have hsv := SI_gv hI.si (by omega) q.2.2 ew w6 q2.1 (v := v) (by omega)
    rw [hx.p5, hx.p4]
    refine Ex.mono (eX4_remember hx.p89 hpr hx.k50 hx.b50 hI.dg.wn hI.si hI.rr) ?_
    rintro r g ⟨rfl, fr, hO, hP⟩
    have p4 : jP g 2 4 = 50 := by rw [fr.1]; exact hx.p4
    have rr2 := hI.rr.fr hx.b50 i6 fr (by omega)
    have br2 := hx.b50.fr fr (by omega)
    have sk2 := hx.k50.fr fr.1 fr.2.1
    apply bX8_sets_56
    case s1 => rw [fr.2.1]; exact hx.s2
    case s2 => rw [p4, fr.2.1]; exact hx.k50.1
    case e1 =>
      rw [p4, ← ea]
      refine Ex.mono (eX6_give sk2 br2 wn wd hI.si (by omega) rr2 (by omega) q.2.2 ew q2.1 (by omega)) ?_
      rintro r g2 ⟨rfl, fr2, br3, rr3⟩
      rw [ea]
      have f1 : FP uP h g2 := (fr.fp (fun a h1 h2 => by unfold uP; omega)).trans (fr2.fp (fun a h1 h2 => by unfold uP; omega))
      have p42 : jP g2 2 4 = 50 := by rw [fr2.1]; exact p4
      have hM1 : MK g2 := hM.fr f1.1 f1.2.1
      have es1 : jX g2 482 = s := ((fr2.2.2.2 482 (by omega)).2.1).trans (((fr.2.2.2 482 (by omega)).2.1).trans hI.es)
      have ep1 : jX g2 483 = past := ((fr2.2.2.2 483 (by omega)).2.1).trans (((fr.2.2.2 483 (by omega)).2.1).trans hep)
      have en1 : jX g2 477 = node := ((fr2.2.2.2 477 (by omega)).2.1).trans (((fr.2.2.2 477 (by omega)).2.1).trans m5)
      have i476 : jI g2 476 = jI h 476 := ((fr2.2.2.2 476 (by omega)).1).trans (fr.2.2.2 476 (by omega)).1
      have hO1 : PO g2 := hO.fr fr2 (by omega)
      have hP1 := hP.fr hO fr2 (by omega)
      have e1' : gv s (wr node a.toNat) v 1 = s 1 := gv_1 i5 i6
      -- the model's side
      have l0 : 0 ≤ s (lo s + 2) ∧ s (lo s + 2) ≤ 8 := by
        have hb := i10 (s 3 - 1).toNat (by omega)
        have el : lo s = 11 + 33 * (s 3 - 1).toNat := rfl
        rw [el]
        exact ⟨hb.2.2.2.1, hb.2.2.2.2.1⟩
      have mod : Ex MX9_sets (d' + 3) [.inr 476, .inl a, .inl v] g2 0 0 (fun v' g' => v' = some (.inl (s 1)) ∧ IE g' (K + 1)) := by
        refine Ex_of_V tX9_sets (Nat.le_of_ble_eq_true rfl) ?_
        have k0' : jX g2 (jP g2 476 0) ((6 * a + 0).toNat) = node (6 * a.toNat) := by rw [hM1.p0, en1, show (6 * a + 0).toNat = 6 * a.toNat by omega]
        have k1' : jX g2 (jP g2 476 0) ((6 * a + 1).toNat) = node (6 * a.toNat + 1) := by rw [hM1.p0, en1, show (6 * a + 1).toNat = 6 * a.toNat + 1 by omega]
        have k5' : jX g2 (jP g2 476 0) ((6 * a + 5).toNat) = ((wr node a.toNat : Nat) : Int) := by rw [hM1.p0, en1, show (6 * a + 5).toNat = 6 * a.toNat + 5 by omega, ew]
        have e5 : (5 + ((wr node a.toNat : Nat) : Int)).toNat = 5 + wr node a.toNat := by omega
        have n1 : jI g2 476 1 = (n : Int) := by rw [i476]; exact m1
        apply bX9_sets_0
        case q1 => rw [k0', n1]; intro z; exact absurd ⟨q.1, by omega, q.2.2⟩ z
        case q3 => rw [k1']; intro _ z; exact absurd ⟨q2.1, by omega⟩ z
        case q2 => rw [k5', hM1.p9, es1, e5]; intro _ _ z; exact absurd z hne
        case e1 =>
          rw [k5']
          intro _ _ _
          refine Ex.mono (eX9_notes hM1 es1 ep1 (by rw [i476]; exact heu) hu6) ?_
          rintro r g3 ⟨rfl, fn, e3, e6, e11, ei⟩
          have hM3 : MK g3 := hM1.fr fn.1 fn.2.1
          have es3 : jX g3 482 = s := (fn.2.2.2 482 (by omega)).2.1.trans es1
          refine vX9_set54 hM3 es3 i2 i4 i5 i6 i7 (by omega) w6 l0.1 l0.2 ?_
          intro g4 fx4 e4
          have f3 : FP (fun a => a = 482 ∨ a = 483 ∨ a = 476) g2 g4 := (fn.wide (fun a ha => by omega)).trans (fx4.fp (fun a ha => Or.inl ha))
          refine ⟨rfl, D, node, n, nw, nd, wi, sn, ns, code, cm, gv s (wr node a.toNat) v, pnt past u s, _, hI.upd (K' := K + 1) (f1.trans (f3.wide (fun a ha => by unfold uP; omega))) (fun k hk => ?_) (hO1.fp f3 (fun a h1 h2 => by omega)) (br3.fp f3 (by omega)) (rr3.fp br3 hsv.2.2.2.2.2.2.1 f3 (fun a h1 h2 => by omega)) e4 hsv ((hP1.fp hO1 f3 (fun a h1 h2 => by omega)).grow (by omega)) ?_ ?_ (by omega)⟩
          · rw [fx4.1]; exact (ei k hk).trans (by rw [i476])
          · rw [fx4.2.2.2.2.2 483 (by omega)]; exact e3
          · rw [fx4.1]; exact e11
        all_goals (try rw [k0', n1])
        all_goals (try rw [k1'])
        all_goals (try rw [k5'])
        all_goals first
          | exact hM1.x
          | (rw [hM1.p9, hM1.s482]; done)
          | (rw [hM1.p0, hM1.s477]; done)
          | (intros; exact ⟨by omega, by omega⟩)
          | (intros; rw [hM1.p0, hM1.s477]; refine Int.lt_of_le_of_lt (b := 71) ?_ (by decide); omega)
          | (intros; rw [hM1.p9, hM1.s482]; refine Int.lt_of_le_of_lt (b := 208) ?_ (by decide); omega)
          | (intros; omega)
      apply bX8_sets_65
      case q1 =>
        rw [p42, rr3.2.1, e1']
        intro z
        refine ⟨0, rfl, hM1.x, ?_⟩
        rw [z] at mod
        exact mod
      case q2 =>
        rw [p42, rr3.2.1, e1']
        intro z
        have z1 : s 1 = 1 := by omega
        refine ⟨1, rfl, hM1.x, ?_⟩
        rw [z1] at mod
        exact mod
      case s1 => rw [f1.2.1]; exact hx.s2
      case s2 => rw [p42, f1.2.1]; exact hx.k50.1
  refine Ex_of_V tX8_sets (Nat.le_of_ble_eq_true rfl) ?_
  apply bX8_sets_0
  case q1 => rw [c8]; exact bad
  case q2 => rw [c8]; intro q q2; exact bad2 q (by omega)
  case q4 =>
    rw [c8]
    intro q q2
    rw [kb _ (by omega) q.2.2]
    intro q3
    exact bad2 q (by omega)
  case q3 =>
    rw [c8]
    intro q q2
    rw [kb _ (by omega) q.2.2, kv _ (by omega) q.2.2]
    intro q3 q4
    exact same q (by omega) q4
  case e1 =>
    rw [c8]
    intro q q2
    rw [kb _ (by omega) q.2.2, kv _ (by omega) q.2.2]
    intro q3 q4
    exact go q (by omega) q4
  all_goals first
    | exact hx.s2
    | exact hI.dk
    | exact hI.rk
    | (rw [ks]; done)
    | (rw [kbs]; done)
    | (rw [kvs]; done)
    | (rw [hx.p5]; exact hx.p89.1)
    | (rw [hI.n0]; omega)
    | (rw [c8]; intro q; intros; omega)
    | (rw [c8]; intro q; intros; rw [kbs]; refine Int.lt_of_le_of_lt (b := 11) ?_ (by decide); omega)
    | (rw [c8]; intro q; intros; rw [kvs]; refine Int.lt_of_le_of_lt (b := 11) ?_ (by decide); omega)
end LV
