/-! ===== SignalWaves$History.read ===== -/
section KU
variable {h g : jH} {node wi sn code cm s : Nat → Int} {n nw nd ns : Nat} {K : Int}
/-- the times of a block: its begin, its first m changes -/
def bt (s : Nat → Int) (i m : Nat) (t : Int) : Prop := t = s (11 + 33 * i) ∨ ∃ j, j < m ∧ t = s (11 + 33 * i + 9 + 3 * j)
def tnb (s : Nat → Int) (b : Nat) (t : Int) : Prop := t = 0 ∨ ∃ i, i < b ∧ (bt s i (s (11 + 33 * i + 2)).toNat t ∨ (s (11 + 33 * i + 1) ≠ -9 ∧ t = s (11 + 33 * i + 1) + 1))
/-- the times at which values can change -/
def tn (s : Nat → Int) (t : Int) : Prop := tnb s (s 3).toNat t
theorem tnb_s {b : Nat} {t : Int} : tnb s (b + 1) t ↔ tnb s b t ∨ bt s b (s (11 + 33 * b + 2)).toNat t ∨ (s (11 + 33 * b + 1) ≠ -9 ∧ t = s (11 + 33 * b + 1) + 1) := by
  constructor
  · rintro (q | ⟨i, hi, q⟩)
    · exact Or.inl (Or.inl q)
    · by_cases z : i = b
      · subst z; exact Or.inr q
      · exact Or.inl (Or.inr ⟨i, by omega, q⟩)
  · rintro ((q | ⟨i, hi, q⟩) | q)
    · exact Or.inl q
    · exact Or.inr ⟨i, by omega, q⟩
    · exact Or.inr ⟨b, by omega, q⟩
theorem bt_s {i m : Nat} {t : Int} : bt s i (m + 1) t ↔ bt s i m t ∨ t = s (11 + 33 * i + 9 + 3 * m) := by
  constructor
  · rintro (q | ⟨j, hj, q⟩)
    · exact Or.inl (Or.inl q)
    · by_cases z : j = m
      · subst z; exact Or.inr q
      · exact Or.inl (Or.inr ⟨j, by omega, q⟩)
  · rintro ((q | ⟨j, hj, q⟩) | q)
    · exact Or.inl q
    · exact Or.inr ⟨j, by omega, q⟩
    · exact Or.inr ⟨m, by omega, q⟩
/-- the cells that a history is read into -/
def hP (D a : Nat) : Prop := a = 329 ∨ a = 330 ∨ (332 ≤ a ∧ a < 393) ∨ a = D + 21
/-- the history stands for the row of numbers -/
def HR (g : jH) (s node code cm : Nat → Int) (n : Nat) : Prop := jI g 329 1 = s 0 ∧ ∃ cnt : Nat, jI g 329 0 = (cnt : Int) ∧ cnt ≤ 61 ∧ (∀ i j, i < j → j < cnt → jX g 330 i < jX g 330 j) ∧ (∀ i, i < cnt → tn s (jX g 330 i) ∧ jX g 330 i ≤ s 0) ∧ (∀ t, tn s t → t ≤ s 0 → ∃ i, i < cnt ∧ jX g 330 i = t) ∧ ∀ i, i < cnt → ∀ k, k < n → jX g (332 + i) k = nvs node code cm (wv s (jX g 330 i)) n k
theorem eX3_read {d D : Nat} (hK : HK h) (hY : HY h) (hD : DK h D) (hDY : DY h D) (hDD : D = 5 ∨ D = 27) (hR : DRep h D node n nw nd wi sn ns code cm) (hn : n ≤ 12) (hnw : nw ≤ 6) (hB : ∀ k, k < n → NB node nw nd ns code cm k) (hN : WN node n) (hW : WD node n) (hr : SK h 50) (br : RB h 50) (hs : SI s node n K) (rep : RecRep h 50 s node n) :
    Ex MX3_read (d + 3) [.inr 329, .inr D, .inr 50] h 0 0 (fun v g => v = none ∧ FP (hP D) h g ∧ HR g s node code cm n) := by
  obtain ⟨k1, k2, k3, k4, k5, k6⟩ := id hK
  obtain ⟨a1, a2, a3, a4, a5, a6⟩ := id hr
  obtain ⟨p0, p1, p2, p3, p4, p5, p6⟩ := id rep
  obtain ⟨i0, i1, i2, i3, i4, i5, i6, i7, i8, i9, i10⟩ := id hs
  -- the values at the moments
  have vals : ∀ (cnt : Nat) (k i : Nat) (g : jH) (u4 u5 : Option jA), i + k = cnt → FP (hP D) h g → MS g (s 0) (fun t => tn s t ∧ t ≤ s 0) 61 → jI g 329 0 = (cnt : Int) → (∀ j, j < i → ∀ k, k < n → jX g (332 + j) k = nvs node code cm (wv s (jX g 330 j)) n k) →
      V MX3_read (d + 3) 111 [some (.inr 329), some (.inr D), some (.inr 50), some (.inl (i : Int)), u4, u5] [] g 0 0 (fun v g => v = none ∧ FP (hP D) h g ∧ HR g s node code cm n) := by
    intro cnt k
    induction k with
    | zero =>
      intro i g u4 u5 hi fp hm hc hv
      obtain rfl : i = cnt := by omega
      have hcc := hc
      obtain ⟨c', m1, m2, m3, m4, m5, m6⟩ := id hm
      obtain rfl : c' = i := by omega
      obtain ⟨c2, m1', mm⟩ := hm.mono
      obtain rfl : c2 = c' := by omega
      apply bX3_read_111
      case q1 =>
        intro _
        exact ⟨rfl, fp, m3, c2, hc, m2, mm, m5, fun t t1 t2 => m6 t ⟨t1, t2⟩, hv⟩
      all_goals first
        | (rw [fp.2.1]; exact k1)
        | (rw [fp.1, fp.2.1, k3, k5]; done)
        | (rw [fp.1, fp.2.1, k2, k4]; done)
        | (rw [fp.2.1]; exact a1)
        | (intro q; exact absurd (by rw [hc]; exact Int.le_refl _) q)
    | succ k ih =>
      intro i g u4 u5 hi fp hm hc hv
      have hcc := hc
      obtain ⟨c', m1, m2, m3, m4, m5, m6⟩ := id hm
      obtain rfl : c' = cnt := by omega
      have hi61 : i < 61 := by omega
      have ey : jY g (jP g 329 3) ((((i : Nat) : Int)).toNat) = 332 + i := by rw [fp.1, k3, (fp.2.2.2 331 (by unfold hP; omega)).2.2, Int.toNat_natCast]; exact hY i hi61
      have et : jX g (jP g 329 2) ((((i : Nat) : Int)).toNat) = jX g 330 i := by rw [fp.1, k2, Int.toNat_natCast]
      have hm50 : ∀ a, 50 ≤ a → a < 50 + 39 → ¬ hP D a := fun a h1 h2 => by unfold hP; omega
      apply bX3_read_111
      case q1 => rw [hc]; intro q; omega
      case e1 =>
        intro _
        rw [ey, et]
        refine Ex.mono (eX6_fillWires (h := g) (s := s) (hr.fr fp.1 fp.2.1) (br.fp fp (hm50 _ (by omega) (by omega))) hN hW hs (rep.fp br i6 fp hm50) (by rw [fp.2.1]; exact k6 i hi61) (by omega)) ?_
        rintro v g2 ⟨rfl, fr2, hw2⟩
        have fp2 : FP (hP D) h g2 := fp.trans (fr2.fp (fun a h1 h2 => by unfold hP; omega))
        have ey2 : jY g2 (jP g2 329 3) ((((i : Nat) : Int)).toNat) = 332 + i := by rw [fp2.1, k3, (fp2.2.2.2 331 (by unfold hP; omega)).2.2, Int.toNat_natCast]; exact hY i hi61
        apply bX3_read_135
        case s1 => rw [fp2.2.1]; exact k1
        case s2 => rw [fp2.1, fp2.2.1, k3, k5]
        case s3 => omega
        case s4 => rw [fp2.1, fp2.2.1, k3, k5]; show (i : Int) < 61; omega
        case s5 => rw [fp2.2.1]; exact hD.1
        case e1 =>
          rw [ey2]
          refine Ex.mono (eX2_complete (h := g2) (w := wv s (jX g 330 i)) (hD.fp fp2) (hDY.fp fp2 (by unfold hP; omega)) (hR.fp fp2 hn (fun a h1 h2 => by unfold hP; omega)) hn hB (fun w0 hw0 => wv_v hN hs _ (by omega)) (by rw [fp2.2.1]; exact k6 i hi61) (by omega) (fun k hk hw0 => hw2 k hk hw0)) ?_
          rintro v g3 ⟨rfl, fx3, hv3⟩
          have fp3 : FP (hP D) h g3 := fp2.trans (fx3.fp (fun a ha => by unfold hP; omega))
          have e30 : jX g3 330 = jX g 330 := (fx3.2.2.2.2.2 330 (by omega)).trans (fr2.2.2.2 330 (by omega)).2.1
          have e29 : jI g3 329 = jI g 329 := (by rw [fx3.1] : jI g3 329 = jI g2 329).trans (fr2.2.2.2 329 (by omega)).1
          apply bX3_read_145
          case r1 => exact ⟨by omega, by omega⟩
          case k1 =>
            rw [show (i : Int) + 1 = ((i + 1 : Nat) : Int) by omega]
            refine ih (i + 1) g3 _ _ (by omega) fp3 ?_ (by rw [e29]; exact hc) (fun j hj k hk => ?_)
            · unfold MS
              rw [e29, e30]
              exact hm
            · rw [e30]
              by_cases q : j = i
              · subst q; exact hv3 k hk
              · rw [fx3.2.2.2.2.2 (332 + j) (by omega), (fr2.2.2.2 (332 + j) (by omega)).2.1]
                exact hv j (by omega) k hk
      all_goals first
        | (rw [fp.2.1]; exact k1)
        | (rw [fp.1, fp.2.1, k3, k5]; done)
        | (rw [fp.1, fp.2.1, k2, k4]; done)
        | (rw [fp.2.1]; exact a1)
        | (intros; omega)
        | (intros; rw [fp.1, fp.2.1, k3, k5]; show (i : Int) < 61; omega)
        | (intros; rw [fp.1, fp.2.1, k2, k4]; show (i : Int) < 61; omega)
  -- the times of the blocks
  have blocks : ∀ (k b : Nat) (g : jH) (u4 u5 : Option jA), b + k = (s 3).toNat → Fr 329 331 h g → MS g (s 0) (fun t => tnb s b t ∧ t ≤ s 0) (1 + 10 * b) →
      V MX3_read (d + 3) 20 [some (.inr 329), some (.inr D), some (.inr 50), some (.inl (b : Int)), u4, u5] [] g 0 0 (fun v g => v = none ∧ FP (hP D) h g ∧ HR g s node code cm n) := by
    intro k
    induction k with
    | zero =>
      intro b g u4 u5 hb fr hm
      obtain rfl : b = (s 3).toNat := by omega
      have e4 : jI g 50 4 = s 3 := by rw [(fr.2.2.2 50 (by omega)).1]; exact p4
      apply bX3_read_20
      case k1 =>
        intro _
        have hm2 : MS g (s 0) (fun t => tn s t ∧ t ≤ s 0) 61 := hm.congr (fun t => Iff.rfl) (by omega)
        obtain ⟨cnt, m1, -⟩ := id hm2
        exact vals cnt cnt 0 g u4 u5 (by omega) (fr.fp (fun a h1 h2 => by unfold hP; omega)) hm2 m1 (fun j hj => absurd hj (Nat.not_lt_zero _))
      all_goals first
        | (rw [fr.2.1]; exact k1)
        | (rw [fr.2.1]; exact a1)
        | (rw [fr.1, fr.2.1, a2, a4]; done)
        | (intro q; exact absurd (by rw [e4]; omega) q)
    | succ k ih =>
      intro b g u4 u5 hb fr hm
      have e4 : jI g 50 4 = s 3 := by rw [(fr.2.2.2 50 (by omega)).1]; exact p4
      obtain ⟨j0, hj0, ej0⟩ := br.1 b (by omega)
      have ey : ∀ g : jH, Fr 329 331 h g → jY g (jP g 50 5) ((((b : Nat) : Int)).toNat) = 53 + 6 * j0 := fun g fr => by rw [fr.1, a2, (fr.2.2.2 51 (by omega)).2.2, Int.toNat_natCast]; exact ej0
      have bk := a6 j0 hj0
      obtain ⟨b1, b2, b3, b4, b5, b6, b7, b8, b9, b10, b11⟩ := id bk
      have hbr := p6 b (by omega)
      rw [ej0] at hbr
      obtain ⟨q0, q1, q2, q3, q4⟩ := hbr
      have hsb := i10 b (by omega)
      obtain ⟨c0, c1, c2, c3, c4, c5, c6, c7⟩ := hsb
      obtain ⟨m, hm9⟩ : ∃ m : Nat, s (11 + 33 * b + 2) = m := ⟨(s (11 + 33 * b + 2)).toNat, by omega⟩
      have hb1 : (b : Int) + 1 = ((b + 1 : Nat) : Int) := by omega
      -- what a block's object reads, behind
      have rd : ∀ g : jH, Fr 329 331 h g → (jI g (53 + 6 * j0) 0 = s (11 + 33 * b)) ∧ (jI g (53 + 6 * j0) 1 = s (11 + 33 * b + 1)) ∧ jI g (jP g (53 + 6 * j0) 3) 0 = (m : Int) ∧ (∀ j : Nat, j < m → jX g (jP g (jP g (53 + 6 * j0) 3) 1) j = s (11 + 33 * b + 9 + 3 * j)) := by
        intro g fr
        refine ⟨by rw [(fr.2.2.2 _ (by omega)).1]; exact q0, by rw [(fr.2.2.2 _ (by omega)).1]; exact q1, ?_, fun j hj => ?_⟩
        · rw [fr.1, b3, (fr.2.2.2 _ (by omega)).1]; exact q2.trans hm9
        · rw [fr.1, b3, b6, (fr.2.2.2 _ (by omega)).2.1]; exact (q4 j (by omega)).1
      have chs : ∀ (k j : Nat) (g : jH), j + k = m → Fr 329 331 h g → MS g (s 0) (fun t => (tnb s b t ∨ bt s b j t) ∧ t ≤ s 0) (2 + 10 * b + j) →
          V MX3_read (d + 3) 48 [some (.inr 329), some (.inr D), some (.inr 50), some (.inl (b : Int)), some (.inr (53 + 6 * j0)), some (.inl (j : Int))] [] g 0 0 (fun v g => v = none ∧ FP (hP D) h g ∧ HR g s node code cm n) := by
        intro k
        induction k with
        | zero =>
          intro j g hj fr hm
          obtain rfl : j = m := by omega
          obtain ⟨r1, r2, r3, r4⟩ := rd g fr
          have hng : ∀ P : Prop, ¬ (jI g (jP g (53 + 6 * j0) 3) 0 ≤ (j : Int)) → P := fun P q => absurd (by rw [r3]; exact Int.le_refl _) q
          apply bX3_read_48
          case k1 =>
            intro _ q
            rw [r2] at q
            rw [hb1]
            refine ih (b + 1) g _ _ (by omega) fr (hm.congr (fun t => ?_) (by omega))
            rw [tnb_s, hm9, Int.toNat_natCast]
            constructor
            · rintro ⟨z | z, z2⟩
              · exact ⟨Or.inl z, z2⟩
              · exact ⟨Or.inr (Or.inl z), z2⟩
            · rintro ⟨z | z | z, z2⟩
              · exact ⟨Or.inl z, z2⟩
              · exact ⟨Or.inr z, z2⟩
              · exact absurd q z.1
          case e1 =>
            intro _ q
            rw [r2] at q ⊢
            refine Ex.mono (eX3_addMoment (c := 2 + 10 * b + j) (hK.fp (fr.fp (P := fun a => 329 ≤ a) (fun a h1 h2 => h1))) hm (by omega)) ?_
            rintro v g2 ⟨rfl, fr2, hm2⟩
            apply bX3_read_103
            case r1 => exact ⟨by omega, by omega⟩
            case k1 =>
              rw [hb1]
              refine ih (b + 1) g2 _ _ (by omega) (fr.trans fr2) (hm2.congr (fun t => ?_) (by omega))
              rw [tnb_s, hm9, Int.toNat_natCast]
              constructor
              · rintro (⟨z | z, z2⟩ | ⟨z, z2⟩)
                · exact ⟨Or.inl z, z2⟩
                · exact ⟨Or.inr (Or.inl z), z2⟩
                · exact ⟨Or.inr (Or.inr ⟨q, z⟩), by omega⟩
              · rintro ⟨z | z | z, z2⟩
                · exact Or.inl ⟨Or.inl z, z2⟩
                · exact Or.inl ⟨Or.inr z, z2⟩
                · exact Or.inr ⟨z.2, by omega⟩
          case r1 => intros; exact ⟨by omega, by omega⟩
          case r2 => intros; rw [r2]; exact ⟨by omega, by omega⟩
          all_goals first
            | (rw [fr.2.1]; exact k1)
            | (rw [fr.2.1]; exact b1)
            | (rw [fr.1, fr.2.1, b3]; exact b5)
            | (rw [fr.1, fr.2.1, b3, b6, b9]; done)
            | (intro q; exact hng _ q)
        | succ k ih2 =>
          intro j g hj fr hm
          obtain ⟨r1, r2, r3, r4⟩ := rd g fr
          apply bX3_read_48
          case k1 => rw [r3]; intro q; omega
          case e1 => rw [r3]; intro q; omega
          case r1 => rw [r3]; intro q; omega
          case r2 => rw [r3]; intro q; omega
          case e2 =>
            intro _
            rw [Int.toNat_natCast, r4 j (by omega)]
            refine Ex.mono (eX3_addMoment (c := 2 + 10 * b + j) (hK.fp (fr.fp (P := fun a => 329 ≤ a) (fun a h1 h2 => h1))) hm (by omega)) ?_
            rintro v g2 ⟨rfl, fr2, hm2⟩
            apply bX3_read_76
            case r1 => exact ⟨by omega, by omega⟩
            case k1 =>
              rw [show (j : Int) + 1 = ((j + 1 : Nat) : Int) by omega]
              refine ih2 (j + 1) g2 (by omega) (fr.trans fr2) (hm2.congr (fun t => ?_) (by omega))
              rw [bt_s]
              constructor
              · rintro (⟨z | z, z2⟩ | ⟨z, z2⟩)
                · exact ⟨Or.inl z, z2⟩
                · exact ⟨Or.inr (Or.inl z), z2⟩
                · exact ⟨Or.inr (Or.inr z), by omega⟩
              · rintro ⟨z | z | z, z2⟩
                · exact Or.inl ⟨Or.inl z, z2⟩
                · exact Or.inl ⟨Or.inr z, z2⟩
                · exact Or.inr ⟨z, by omega⟩
          all_goals first
            | (rw [fr.2.1]; exact k1)
            | (rw [fr.2.1]; exact b1)
            | (rw [fr.1, fr.2.1, b3]; exact b5)
            | (rw [fr.1, fr.2.1, b3, b6, b9]; done)
            | (intros; omega)
            | (intros; rw [fr.1, fr.2.1, b3, b6, b9]; show (j : Int) < 8; omega)
      apply bX3_read_20
      case k1 => rw [e4]; intro q; omega
      case e1 =>
        intro _
        rw [ey g fr, (rd g fr).1]
        refine Ex.mono (eX3_addMoment (c := 1 + 10 * b) (hK.fp (fr.fp (P := fun a => 329 ≤ a) (fun a h1 h2 => h1))) hm (by omega)) ?_
        rintro v g2 ⟨rfl, fr2, hm2⟩
        apply bX3_read_45
        focus
          refine chs m 0 g2 (by omega) (fr.trans fr2) (hm2.congr (fun t => ?_) (by omega))
          constructor
          · rintro (⟨z, z2⟩ | ⟨z, z2⟩)
            · exact ⟨Or.inl z, z2⟩
            · exact ⟨Or.inr (Or.inl z), by omega⟩
          · rintro ⟨z | z | ⟨j, hj, -⟩, z2⟩
            · exact Or.inl ⟨z, z2⟩
            · exact Or.inr ⟨z, by omega⟩
            · omega
      all_goals first
        | (rw [fr.2.1]; exact k1)
        | (rw [fr.2.1]; exact a1)
        | (rw [fr.1, fr.2.1, a2, a4]; done)
        | (intros; omega)
        | (intros; rw [fr.1, fr.2.1, a2, a4]; show (b : Int) < 6; omega)
        | (intros; rw [ey g fr, fr.2.1]; exact b1)
  refine Ex_of_V tX3_read (Nat.le_of_ble_eq_true rfl) ?_
  apply bX3_read_0
  case s1 => exact a1
  case s2 => exact k1
  case e1 =>
    rw [p0]
    have fr0 : Fr 329 331 h (jsI (jsI h 329 1 (s 0)) 329 0 0) := (Fr.sI (by omega) (by omega)).trans (Fr.sI (by omega) (by omega))
    have hm0 : MS (jsI (jsI h 329 1 (s 0)) 329 0 0) (s 0) (fun _ => False) 0 := ⟨0, by rw [jI_sI, if_pos ⟨rfl, rfl⟩]; rfl, by omega, by rw [jI_sI, if_neg (by omega), jI_sI, if_pos ⟨rfl, rfl⟩], fun i hi => by omega, fun i hi => by omega, fun t q => False.elim q⟩
    refine Ex.mono (eX3_addMoment (hK.fp (fr0.fp (P := fun a => 329 ≤ a) (fun a h1 h2 => h1))) hm0 (by omega)) ?_
    rintro v g2 ⟨rfl, fr2, hm2⟩
    apply bX3_read_18
    focus
      refine blocks (s 3).toNat 0 g2 _ _ (by omega) (fr0.trans fr2) (hm2.congr (fun t => ?_) (by omega))
      constructor
      · rintro (z | ⟨z, z2⟩)
        · exact False.elim z
        · exact ⟨Or.inl z, by omega⟩
      · rintro ⟨z | ⟨i, hi, -⟩, z2⟩
        · exact Or.inr ⟨z, by omega⟩
        · omega
end KU
