/-! ===== the model: turns, the line of a node ===== -/
section KV
variable {h g : jH} {node wi sn code cm s : Nat → Int} {n nw nd ns : Nat} {K : Int}
/-- turns are marked among the first times -/
def TM (g : jH) (S : Int → Prop) : Prop := ∀ t : Nat, t < 1002 → (jX g 496 t = 0 ∨ jX g 496 t = 1) ∧ (jX g 496 t = 1 ↔ S t)
theorem TM.set {S : Int → Prop} {a : Nat} {x : Int} (hT : TM h S) (hx : x = (a : Int)) : TM (jsX h 496 a 1) (fun t => S t ∨ t = x) := by
  intro t ht
  obtain ⟨t1, t2⟩ := hT t ht
  rw [jX_sX]
  by_cases q : t = a
  · subst q
    rw [if_pos ⟨rfl, rfl⟩]
    exact ⟨Or.inr rfl, fun _ => Or.inr hx.symm, fun _ => rfl⟩
  · rw [if_neg (fun z => q z.2)]
    refine ⟨t1, fun z => Or.inl (t2.mp z), fun z => ?_⟩
    rcases z with z | z
    · exact t2.mpr z
    · omega
theorem TM.congr {S S' : Int → Prop} (hT : TM h S) (he : ∀ t, S t ↔ S' t) : TM h S' := fun t ht => ⟨(hT t ht).1, (hT t ht).2.trans (he t)⟩
theorem TM.eq {S : Int → Prop} (hT : TM h S) (he : jX g 496 = jX h 496) : TM g S := by
  unfold TM
  rw [he]
  exact hT
theorem eX9_laysTurns {d : Nat} (hM : MK h) (es : jX h 482 = s) (hs : SI s node n K) :
    Ex MX9_laysTurns (d + 1) [.inr 476] h 0 0 (fun v g => v = none ∧ FX (fun b => b = 496) h g ∧ TM g (tn s)) := by
  obtain ⟨i0, i1, i2, i3, i4, i5, i6, i7, i8, i9, i10⟩ := id hs
  refine Ex_of_V tX9_laysTurns (Nat.le_of_ble_eq_true rfl) ?_
  apply bX9_laysTurns_0
  have s4 : ∀ g : jH, FX (fun b => b = 496) h g → jX g 482 = s := fun g fx => (fx.2.2.2.2.2 482 (by omega)).trans es
  have blocks : ∀ (k b : Nat) (g : jH) (u2 u3 : Option jA), b + k = (s 3).toNat → FX (fun b => b = 496) h g → TM g (tnb s b) →
      V MX9_laysTurns (d + 1) 32 [some (.inr 476), some (.inl (b : Int)), u2, u3] [] g 0 0 (fun v g => v = none ∧ FX (fun b => b = 496) h g ∧ TM g (tn s)) := by
    intro k
    induction k with
    | zero =>
      intro b g u2 u3 hb fx hT
      obtain rfl : b = (s 3).toNat := by omega
      have hM2 : MK g := hM.fr fx.2.1 fx.2.2.2.1
      have h3 : jX g (jP g 476 9) 3 = s 3 := by rw [hM2.p9, s4 g fx]
      have hng : ∀ P : Prop, ¬ (jX g (jP g 476 9) 3 ≤ (((s 3).toNat : Nat) : Int)) → P := fun P q => absurd (by rw [h3]; omega) q
      apply bX9_laysTurns_32
      case q1 => intro _; exact ⟨rfl, fx, hT⟩
      all_goals first
        | exact hM2.x
        | (rw [hM2.p9, hM2.s482]; done)
        | (rw [hM2.p39, hM2.s496]; done)
        | (rw [hM2.p9, hM2.s482]; decide)
        | (intro q; exact hng _ q)
    | succ k ih =>
      intro b g u2 u3 hb fx hT
      have hM2 : MK g := hM.fr fx.2.1 fx.2.2.2.1
      have h3 : jX g (jP g 476 9) 3 = s 3 := by rw [hM2.p9, s4 g fx]
      have hsb := i10 b (by omega)
      obtain ⟨c0, c1, c2, c3, c4, c5, c6, c7⟩ := hsb
      obtain ⟨m, hm9⟩ : ∃ m : Nat, s (11 + 33 * b + 2) = m := ⟨(s (11 + 33 * b + 2)).toNat, by omega⟩
      have hb0 : jX g (jP g 476 9) ((11 + 33 * (b : Int)).toNat) = s (11 + 33 * b) := by rw [hM2.p9, s4 g fx, show (11 + 33 * (b : Int)).toNat = 11 + 33 * b by omega]
      have hb1 : jX (jsX g (jP g 476 39) ((s (11 + 33 * b)).toNat) 1) (jP g 476 9) ((11 + 33 * (b : Int) + 1).toNat) = s (11 + 33 * b + 1) := by rw [hM2.p9, hM2.p39, jX_sX, if_neg (by omega), s4 g fx, show (11 + 33 * (b : Int) + 1).toNat = 11 + 33 * b + 1 by omega]
      have hbn : (b : Int) + 1 = ((b + 1 : Nat) : Int) := by omega
      have chs : ∀ (k j : Nat) (g : jH), j + k = m → FX (fun b => b = 496) h g → TM g (fun t => tnb s b t ∨ (s (11 + 33 * b + 1) ≠ -9 ∧ t = s (11 + 33 * b + 1) + 1) ∨ bt s b j t) →
          V MX9_laysTurns (d + 1) 90 [some (.inr 476), some (.inl (b : Int)), some (.inl (11 + 33 * (b : Int))), some (.inl (j : Int))] [] g 0 0 (fun v g => v = none ∧ FX (fun b => b = 496) h g ∧ TM g (tn s)) := by
        intro k
        induction k with
        | zero =>
          intro j g hj fx hT
          obtain rfl : j = m := by omega
          have hM2 : MK g := hM.fr fx.2.1 fx.2.2.2.1
          have hm : jX g (jP g 476 9) ((11 + 33 * (b : Int) + 2).toNat) = (j : Int) := by rw [hM2.p9, s4 g fx, show (11 + 33 * (b : Int) + 2).toNat = 11 + 33 * b + 2 by omega]; exact hm9
          have hng : ∀ P : Prop, ¬ (jX g (jP g 476 9) ((11 + 33 * (b : Int) + 2).toNat) ≤ (j : Int)) → P := fun P q => absurd (by rw [hm]; exact Int.le_refl _) q
          apply bX9_laysTurns_90
          case k1 =>
            intro _
            rw [hbn]
            refine ih (b + 1) g _ _ (by omega) fx (hT.congr (fun t => ?_))
            rw [tnb_s, hm9, Int.toNat_natCast]
            constructor
            · rintro (z | z | z)
              · exact Or.inl z
              · exact Or.inr (Or.inr z)
              · exact Or.inr (Or.inl z)
            · rintro (z | z | z)
              · exact Or.inl z
              · exact Or.inr (Or.inr z)
              · exact Or.inr (Or.inl z)
          all_goals first
            | exact hM2.x
            | (rw [hM2.p9, hM2.s482]; done)
            | (rw [hM2.p39, hM2.s496]; done)
            | (intro q; exact hng _ q)
            | (intros; exact ⟨by omega, by omega⟩)
            | (exact ⟨by omega, by omega⟩)
            | (intros; omega)
            | (intros; rw [hM2.p9, hM2.s482]; refine Int.lt_of_le_of_lt (b := 208) ?_ (by decide); omega)
        | succ k ih2 =>
          intro j g hj fx hT
          have hM2 : MK g := hM.fr fx.2.1 fx.2.2.2.1
          have hm : jX g (jP g 476 9) ((11 + 33 * (b : Int) + 2).toNat) = (m : Int) := by rw [hM2.p9, s4 g fx, show (11 + 33 * (b : Int) + 2).toNat = 11 + 33 * b + 2 by omega]; exact hm9
          have hng : ∀ P : Prop, (jX g (jP g 476 9) ((11 + 33 * (b : Int) + 2).toNat) ≤ (j : Int)) → P := fun P q => absurd q (by rw [hm]; omega)
          have y := c6 j (by omega)
          have hc : jX g (jP g 476 9) ((11 + 33 * (b : Int) + 9 + 3 * (j : Int)).toNat) = s (11 + 33 * b + 9 + 3 * j) := by rw [hM2.p9, s4 g fx, show (11 + 33 * (b : Int) + 9 + 3 * (j : Int)).toNat = 11 + 33 * b + 9 + 3 * j by omega]
          apply bX9_laysTurns_90
          case k1 => intro q; exact hng _ q
          case k2 =>
            intro _
            rw [hc, show (j : Int) + 1 = ((j + 1 : Nat) : Int) by omega, hM2.p39]
            refine ih2 (j + 1) _ (by omega) (fx.trans (FX.sX rfl)) ((hT.set (a := (s (11 + 33 * b + 9 + 3 * j)).toNat) (x := s (11 + 33 * b + 9 + 3 * j)) (by omega)).congr (fun t => ?_))
            rw [bt_s]
            constructor
            · rintro ((z | z | z) | z)
              · exact Or.inl z
              · exact Or.inr (Or.inl z)
              · exact Or.inr (Or.inr (Or.inl z))
              · exact Or.inr (Or.inr (Or.inr z))
            · rintro (z | z | z | z)
              · exact Or.inl (Or.inl z)
              · exact Or.inl (Or.inr (Or.inl z))
              · exact Or.inl (Or.inr (Or.inr z))
              · exact Or.inr z
          all_goals (try rw [hc])
          all_goals first
            | exact hM2.x
            | (rw [hM2.p9, hM2.s482]; done)
            | (rw [hM2.p39, hM2.s496]; done)
            | (intro q; exact hng _ q)
            | (intros; exact ⟨by omega, by omega⟩)
            | (exact ⟨by omega, by omega⟩)
            | (intros; omega)
            | (intros; rw [hM2.p9, hM2.s482]; refine Int.lt_of_le_of_lt (b := 208) ?_ (by decide); omega)
            | (intros; rw [hM2.p39, hM2.s496]; refine Int.lt_of_le_of_lt (b := 1000) ?_ (by decide); omega)
      have hT1 : TM (jsX g 496 (s (11 + 33 * b)).toNat 1) (fun t => tnb s b t ∨ t = s (11 + 33 * b)) := hT.set (by omega)
      apply bX9_laysTurns_32
      case q1 => intro q; rw [h3] at q; omega
      case k1 =>
        rw [hb0, hb1]
        intro _ q
        rw [hM2.p39]
        refine chs m 0 _ (by omega) (fx.trans (FX.sX rfl)) (hT1.congr (fun t => ?_))
        constructor
        · rintro (z | z)
          · exact Or.inl z
          · exact Or.inr (Or.inr (Or.inl z))
        · rintro (z | z | z | ⟨j, hj, -⟩)
          · exact Or.inl z
          · exact absurd q z.1
          · exact Or.inr z
          · omega
      case k2 =>
        rw [hb0, hb1]
        intro _ q
        rw [hM2.p39]
        refine chs m 0 _ (by omega) ((fx.trans (FX.sX rfl)).trans (FX.sX rfl)) ((hT1.set (a := (s (11 + 33 * b + 1) + 1).toNat) (x := s (11 + 33 * b + 1) + 1) (by omega)).congr (fun t => ?_))
        constructor
        · rintro ((z | z) | z)
          · exact Or.inl z
          · exact Or.inr (Or.inr (Or.inl z))
          · exact Or.inr (Or.inl ⟨q, z⟩)
        · rintro (z | z | z | ⟨j, hj, -⟩)
          · exact Or.inl (Or.inl z)
          · exact Or.inr z.2
          · exact Or.inl (Or.inr z)
          · omega
      all_goals (try rw [hb0])
      all_goals (try rw [hb1])
      all_goals first
        | exact hM2.x
        | (rw [hM2.p9, hM2.s482]; done)
        | (rw [hM2.p39, hM2.s496]; done)
        | (rw [h3]; intro q; omega)
        | (intros; exact ⟨by omega, by omega⟩)
        | (intros; omega)
        | (intros; rw [hM2.p9, hM2.s482]; refine Int.lt_of_le_of_lt (b := 208) ?_ (by decide); omega)
        | (rw [hM2.p9, hM2.s482]; decide)
        | (intros; rw [hM2.p39, hM2.s496]; refine Int.lt_of_le_of_lt (b := 1000) ?_ (by decide); omega)
  have first : ∀ (k i : Nat) (g : jH), i + k = 1002 → FX (fun b => b = 496) h g → (∀ t : Nat, t < i → (jX g 496 t = 0 ∨ jX g 496 t = 1) ∧ (jX g 496 t = 1 ↔ t = 0)) →
      V MX9_laysTurns (d + 1) 2 [some (.inr 476), some (.inl (i : Int)), none, none] [] g 0 0 (fun v g => v = none ∧ FX (fun b => b = 496) h g ∧ TM g (tn s)) := by
    intro k
    induction k with
    | zero =>
      intro i g hi fx hT
      obtain rfl : i = 1002 := by omega
      have hM2 : MK g := hM.fr fx.2.1 fx.2.2.2.1
      apply bX9_laysTurns_2
      case k1 =>
        intro _
        refine blocks (s 3).toNat 0 g _ _ (by omega) fx (fun t ht => ⟨(hT t ht).1, (hT t ht).2.trans ⟨fun z => Or.inl (by omega), fun z => ?_⟩⟩)
        rcases z with z | ⟨i, hi, -⟩
        · omega
        · omega
      all_goals first
        | exact hM2.x
        | (rw [hM2.p39, hM2.s496]; done)
        | (intro q; exact absurd (by decide) q)
    | succ k ih =>
      intro i g hi fx hT
      have hM2 : MK g := hM.fr fx.2.1 fx.2.2.2.1
      have hj1 : (i : Int) + 1 = ((i + 1 : Nat) : Int) := by omega
      apply bX9_laysTurns_2
      case k1 => intro q; omega
      case k2 =>
        intro _ q
        rw [hj1, hM2.p39, Int.toNat_natCast]
        refine ih (i + 1) _ (by omega) (fx.trans (FX.sX rfl)) (fun t ht => ?_)
        rw [jX_sX]
        by_cases z : t = i
        · rw [if_pos ⟨rfl, z⟩]; exact ⟨Or.inl rfl, fun y => by omega, fun y => by omega⟩
        · rw [if_neg (fun y => z y.2)]; exact hT t (by omega)
      case k3 =>
        intro _ q
        rw [hj1, hM2.p39, Int.toNat_natCast]
        refine ih (i + 1) _ (by omega) (fx.trans (FX.sX rfl)) (fun t ht => ?_)
        rw [jX_sX]
        by_cases z : t = i
        · rw [if_pos ⟨rfl, z⟩]; exact ⟨Or.inr rfl, fun y => by omega, fun y => rfl⟩
        · rw [if_neg (fun y => z y.2)]; exact hT t (by omega)
      all_goals first
        | exact hM2.x
        | (rw [hM2.p39, hM2.s496]; done)
        | (intros; exact ⟨by omega, by omega⟩)
        | (intros; omega)
        | (intros; rw [hM2.p39, hM2.s496]; refine Int.lt_of_le_of_lt (b := 1001) ?_ (by decide); omega)
  have h9 := first 1002 0 h (by omega) FX.rf (fun t ht => absurd ht (Nat.not_lt_zero _))
  exact h9
/-- the last turn until a time -/
noncomputable def ltn (s : Nat → Int) : Nat → Nat
  | 0 => 0
  | t + 1 => @ite Nat (tn s ((t + 1 : Nat) : Int)) (Classical.propDecidable _) (t + 1) (ltn s t)
theorem ltn_p {t : Nat} (h1 : tn s (t : Int)) : ltn s t = t := by
  cases t with
  | zero => rfl
  | succ t => unfold ltn; rw [if_pos h1]
theorem ltn_n {t : Nat} (h1 : ¬ tn s ((t + 1 : Nat) : Int)) : ltn s (t + 1) = ltn s t := by
  conv => lhs; unfold ltn
  rw [if_neg h1]
theorem ltn_r {a : Nat} (h1 : tn s (a : Int)) : ∀ t : Nat, a ≤ t → (∀ u : Nat, a < u → u ≤ t → ¬ tn s (u : Int)) → ltn s t = a
  | 0, ht, _ => by rw [show a = 0 by omega]; rfl
  | t + 1, ht, hu => by
    by_cases q : a = t + 1
    · subst q; exact ltn_p h1
    · rw [ltn_n (hu _ (by omega) (by omega))]
      exact ltn_r h1 t (by omega) (fun u h2 h3 => hu u h2 (by omega))
theorem tn_0 : tn s 0 := Or.inl rfl
/-- the line of node k -/
noncomputable def nl (node code cm s : Nat → Int) (n k t : Nat) : Int := nvs node code cm (wv s (ltn s t : Int)) n k
theorem eX9_laysLine {d k : Nat} (hM : MK h) (hD : MD h node n nw nd wi sn ns code cm) (hn : n ≤ 12) (hnw : nw ≤ 6) (hnd : nd ≤ 4) (hB : ∀ k, k < n → NB node nw nd ns code cm k) (hN : WN node n) (es : jX h 482 = s) (hs : SI s node n K) (hk : k < n) :
    Ex MX9_laysLine (d + 4) [.inr 476, .inl (k : Int)] h 0 0 (fun v g => v = none ∧ FX (fun b => 493 ≤ b ∧ b ≤ 497) h g ∧ ∀ t : Nat, (t : Int) ≤ s 0 → jX g 497 t = nl node code cm s n k t) := by
  obtain ⟨i0, i1, i2, i3, i4, i5, i6, i7, i8, i9, i10⟩ := id hs
  refine Ex_of_V tX9_laysLine (Nat.le_of_ble_eq_true rfl) ?_
  apply bX9_laysLine_0
  case s1 => exact hM.x
  case e1 =>
    refine Ex.mono (eX9_laysTurns hM es hs) ?_
    rintro v g0 ⟨rfl, fx0, hT0⟩
    apply bX9_laysLine_4
    have s4 : ∀ g : jH, FX (fun b => 493 ≤ b ∧ b ≤ 497) h g → jX g 482 = s := fun g fx => (fx.2.2.2.2.2 482 (by omega)).trans es
    have key : ∀ (m t : Nat) (g : jH), ((t + m : Nat) : Int) = s 0 + 1 → FX (fun b => 493 ≤ b ∧ b ≤ 497) h g → TM g (tn s) → (∀ u : Nat, u < t → jX g 497 u = nl node code cm s n k u) → (0 < t → ∀ i, i < n → jX g 493 i = nvs node code cm (wv s (ltn s (t - 1) : Int)) n i) →
        V MX9_laysLine (d + 4) 6 [some (.inr 476), some (.inl (k : Int)), some (.inl (t : Int))] [] g 0 0 (fun v g => v = none ∧ FX (fun b => 493 ≤ b ∧ b ≤ 497) h g ∧ ∀ t : Nat, (t : Int) ≤ s 0 → jX g 497 t = nl node code cm s n k t) := by
      intro m
      induction m with
      | zero =>
        intro t g ht fx hT hl hv
        have hM2 : MK g := hM.fr fx.2.1 fx.2.2.2.1
        have h0 : jX g (jP g 476 9) 0 = s 0 := by rw [hM2.p9, s4 g fx]
        have hng : ∀ P : Prop, ¬ (jX g (jP g 476 9) 0 < (t : Int)) → P := fun P q => absurd (by rw [h0]; omega) q
        apply bX9_laysLine_6
        case q1 => intro _; exact ⟨rfl, fx, fun u hu => hl u (by omega)⟩
        all_goals first
          | exact hM2.x
          | (rw [hM2.p9, hM2.s482]; done)
          | (rw [hM2.p39, hM2.s496]; done)
          | (rw [hM2.p40, hM2.s497]; done)
          | (rw [hM2.p36, hM2.s493]; done)
          | (rw [hM2.p9, hM2.s482]; decide)
          | (intro q; exact hng _ q)
      | succ m ih =>
        intro t g ht fx hT hl hv
        have hM2 : MK g := hM.fr fx.2.1 fx.2.2.2.1
        have hD2 := hD.fx fx (fun b hb => by omega)
        have h0 : jX g (jP g 476 9) 0 = s 0 := by rw [hM2.p9, s4 g fx]
        have htn : jX g (jP g 476 39) ((((t : Nat) : Int)).toNat) = jX g 496 t := by rw [hM2.p39, Int.toNat_natCast]
        obtain ⟨y1, y2⟩ := hT t (by omega)
        have hj1 : (t : Int) + 1 = ((t + 1 : Nat) : Int) := by omega
        have next : ∀ g2 : jH, FX (fun b => 493 ≤ b ∧ b ≤ 497) h g2 → jX g2 496 = jX g 496 → jX g2 497 = jX g 497 → (∀ i, i < n → jX g2 493 i = nvs node code cm (wv s (ltn s t : Int)) n i) →
            V MX9_laysLine (d + 4) 6 [some (.inr 476), some (.inl (k : Int)), some (.inl ((t + 1 : Nat) : Int))] [] (jsX g2 497 t (jX g2 493 k)) 0 0 (fun v g => v = none ∧ FX (fun b => 493 ≤ b ∧ b ≤ 497) h g ∧ ∀ t : Nat, (t : Int) ≤ s 0 → jX g 497 t = nl node code cm s n k t) := by
          intro g2 fx2 e6 e7 hv2
          refine ih (t + 1) _ (by omega) (fx2.trans (FX.sX (by omega))) (hT.eq ?_) (fun u hu => ?_) (fun _ i hi => ?_)
          · exact (funext fun j => by rw [jX_sX, if_neg (by omega)] : jX (jsX g2 497 t (jX g2 493 k)) 496 = jX g2 496).trans e6
          · rw [jX_sX]
            by_cases q : u = t
            · subst q; rw [if_pos ⟨rfl, rfl⟩, hv2 k hk]; rfl
            · rw [if_neg (fun z => q z.2), e7]; exact hl u (by omega)
          · rw [jX_sX, if_neg (by omega), Nat.add_sub_cancel]; exact hv2 i hi
        apply bX9_laysLine_6
        case q1 => rw [h0]; intro q; omega
        case k1 =>
          rw [htn]
          intro _ q
          have hnt : ¬ tn s (t : Int) := fun z => by have := y2.mpr z; omega
          obtain ⟨t', rfl⟩ : ∃ t', t = t' + 1 := by
            cases t with
            | zero => exact absurd tn_0 hnt
            | succ t' => exact ⟨t', rfl⟩
          rw [hj1, hM2.p40, hM2.p36, Int.toNat_natCast, Int.toNat_natCast]
          refine next g fx rfl rfl (fun i hi => ?_)
          rw [ltn_n hnt]
          exact hv (by omega) i hi
        case e1 =>
          rw [htn]
          intro _ q
          have htt : tn s (t : Int) := y2.mp (by omega)
          refine Ex.mono (eX9_laysAt hM2 hD2 hn hnw hnd hB hN (s4 g fx) hs) ?_
          rintro v g2 ⟨rfl, fx2, hv2⟩
          have fx3 : FX (fun b => 493 ≤ b ∧ b ≤ 497) h g2 := fx.trans (fx2.wide (fun b hb => by omega))
          have hM3 : MK g2 := hM.fr fx3.2.1 fx3.2.2.2.1
          apply bX9_laysLine_30
          case k1 =>
            rw [hj1, hM3.p40, hM3.p36, Int.toNat_natCast, Int.toNat_natCast]
            exact next g2 fx3 (fx2.2.2.2.2.2 496 (by omega)) (fx2.2.2.2.2.2 497 (by omega)) (fun i hi => by rw [ltn_p htt]; exact hv2 i hi)
          all_goals first
            | exact hM3.x
            | (rw [hM3.p40, hM3.s497]; done)
            | (rw [hM3.p36, hM3.s493]; done)
            | (exact ⟨by omega, by omega⟩)
            | omega
            | (rw [hM3.p40, hM3.s497]; refine Int.lt_of_le_of_lt (b := 999) ?_ (by decide); omega)
            | (rw [hM3.p36, hM3.s493]; refine Int.lt_of_le_of_lt (b := 11) ?_ (by decide); omega)
        all_goals first
          | exact hM2.x
          | (rw [hM2.p9, hM2.s482]; done)
          | (rw [hM2.p39, hM2.s496]; done)
          | (rw [hM2.p40, hM2.s497]; done)
          | (rw [hM2.p36, hM2.s493]; done)
          | (rw [hM2.p9, hM2.s482]; decide)
          | (intros; exact ⟨by omega, by omega⟩)
          | (intros; omega)
          | (intros; rw [hM2.p39, hM2.s496]; refine Int.lt_of_le_of_lt (b := 1001) ?_ (by decide); omega)
          | (intros; rw [hM2.p40, hM2.s497]; refine Int.lt_of_le_of_lt (b := 999) ?_ (by decide); omega)
          | (intros; rw [hM2.p36, hM2.s493]; refine Int.lt_of_le_of_lt (b := 11) ?_ (by decide); omega)
    have h9 := key (s 0 + 1).toNat 0 g0 (by omega) (fx0.wide (fun b hb => by omega)) hT0 (fun u hu => absurd hu (Nat.not_lt_zero _)) (fun q => absurd q (Nat.lt_irrefl _))
    exact h9
end KV
