/-! ===== SignalWaves$Recording: blocks begin, are lost, take changes ===== -/
section KH
variable {h g : jH} {s node : Nat → Int} {n : Nat} {K : Int}
/-- the first m places of a row of references, one further -/
def jrot (h : jH) (a m : Nat) : jH := (h.1, h.2.1, h.2.2.1, fun b i => if b = a ∧ i < m then jY h a (i + 1) else jY h b i, h.2.2.2.2)
theorem jY_rot {a m b i : Nat} : jY (jrot h a m) b i = if b = a ∧ i < m then jY h a (i + 1) else jY h b i := rfl
theorem jrot_0 {a : Nat} : jrot h a 0 = h := jH_ext (fun _ _ => rfl) (fun _ _ => rfl) (fun _ _ => rfl) (fun b i => by rw [jY_rot, if_neg (by omega)]) rfl rfl
theorem jrot_s {a m : Nat} : jsY (jrot h a m) a m (jY (jrot h a m) a (m + 1)) = jrot h a (m + 1) :=
  jH_ext (fun _ _ => rfl) (fun _ _ => rfl) (fun _ _ => rfl) (fun b i => by
    rw [jY_sY, jY_rot, jY_rot, jY_rot, if_neg (by omega : ¬ (a = a ∧ m + 1 < m))]
    by_cases hb : b = a
    · subst hb
      by_cases hi : i = m
      · subst hi; rw [if_pos ⟨rfl, rfl⟩, if_pos ⟨rfl, by omega⟩]
      · rw [if_neg (by omega)]
        by_cases q : i < m
        · rw [if_pos ⟨rfl, q⟩, if_pos ⟨rfl, by omega⟩]
        · rw [if_neg (by omega), if_neg (by omega)]
    · rw [if_neg (by omega), if_neg (by omega), if_neg (by omega)]) rfl rfl
theorem Fr.rot {lo hi a m : Nat} (h1 : lo ≤ a) (h2 : a < hi) : Fr lo hi h (jrot h a m) :=
  ⟨rfl, rfl, rfl, fun b hb => ⟨rfl, rfl, funext fun j => by rw [jY_rot, if_neg (by omega)]⟩⟩
theorem eX6_loseOldest {d r : Nat} (hr : SK h r) (br : RB h r) (h3 : jI h r 3 ≤ 100000) (h3' : 0 ≤ jI h r 3) (h4 : jI h r 4 = 6) :
    Ex MX6_loseOldest d [.inr r] h 0 0 (fun v g => v = none ∧ g = jsI (jsI (jsY (jrot h (r + 1) 5) (r + 1) 5 (jY h (r + 1) 0)) r 4 (jI h r 4 - 1)) r 3 (jI h r 3 + 1)) := by
  obtain ⟨a1, a2, a3, a4, a5, a6⟩ := hr
  refine Ex_of_V tX6_loseOldest (Nat.le_of_ble_eq_true rfl) ?_
  apply bX6_loseOldest_0
  case s1 => exact a1
  case s2 => rw [a2, a4]
  case s3 => rw [a2, a4]; decide
  rw [a2]
  have key : ∀ k m : Nat, m + k = 5 → V MX6_loseOldest d 9 [some (.inr r), some (.inr (jY h (r + 1) 0)), some (.inl ((m + 1 : Nat) : Int))] [] (jrot h (r + 1) m) 0 0 (fun v g => v = none ∧ g = jsI (jsI (jsY (jrot h (r + 1) 5) (r + 1) 5 (jY h (r + 1) 0)) r 4 (jI h r 4 - 1)) r 3 (jI h r 3 + 1)) := by
    intro k
    have b0 : (jS h (jY h (r + 1) 0)).1 = 0 := by
      obtain ⟨j, hj, ej⟩ := br.1 0 (by omega)
      rw [ej]; exact (a6 j hj).1
    have pp : ∀ m, jP (jrot h (r + 1) m) r 5 = r + 1 := fun _ => a2
    have ss : ∀ m, jS (jrot h (r + 1) m) = jS h := fun _ => rfl
    induction k with
    | zero =>
      intro m hm
      obtain rfl : m = 5 := by omega
      apply bX6_loseOldest_9
      case q1 =>
        intro _
        rw [pp]
        refine ⟨rfl, ?_⟩
        rfl
      case r1 => intro _; show jR (jI h r 4 - 1); exact ⟨by omega, by omega⟩
      case r2 => intro _; show jR (jI h r 3 + 1); exact ⟨by omega, by omega⟩
      case k1 => intro q; omega
      all_goals (try simp only [pp, ss, a2, a4])
      all_goals (intros; first | omega | exact a1 | exact b0 | rfl | assumption)
    | succ k ih =>
      intro m hm
      obtain ⟨j, hj, ej⟩ := br.1 (m + 1) (by omega)
      have b1 : (jS h (jY (jrot h (r + 1) m) (r + 1) (((m + 1 : Nat) : Int)).toNat)).1 = 0 := by
        rw [Int.toNat_natCast, jY_rot, if_neg (by omega), ej]; exact (a6 j hj).1
      apply bX6_loseOldest_9
      case k1 =>
        intro _
        rw [pp, show ((((m + 1 : Nat) : Int)) - 1).toNat = m by omega, Int.toNat_natCast, jrot_s]
        exact ih (m + 1) (by omega)
      case q1 => intro q; omega
      case r3 => intro _; exact ⟨by omega, by omega⟩
      case r4 => intro _; exact ⟨by omega, by omega⟩
      all_goals (try simp only [pp, ss, a2, a4])
      all_goals (intros; first | omega | exact a1 | exact b0 | exact b1 | rfl | assumption)
  have h9 := key 5 0 (by omega)
  rw [jrot_0] at h9
  exact h9
/-- behind the loss: the recording stands for the row without its oldest block -/
theorem lose_rep {r : Nat} (br : RB h r) (hN : WN node n) (hs : SI s node n K) (h6 : s 3 = 6) (rep : RecRep h r s node n) :
    RB (jsI (jsI (jsY (jrot h (r + 1) 5) (r + 1) 5 (jY h (r + 1) 0)) r 4 (jI h r 4 - 1)) r 3 (jI h r 3 + 1)) r ∧ RecRep (jsI (jsI (jsY (jrot h (r + 1) 5) (r + 1) 5 (jY h (r + 1) 0)) r 4 (jI h r 4 - 1)) r 3 (jI h r 3 + 1)) r (bsh s) node n := by
  obtain ⟨p0, p1, p2, p3, p4, p5, p6⟩ := rep
  have hY : ∀ i, i < 6 → jY (jsI (jsI (jsY (jrot h (r + 1) 5) (r + 1) 5 (jY h (r + 1) 0)) r 4 (jI h r 4 - 1)) r 3 (jI h r 3 + 1)) (r + 1) i = if i = 5 then jY h (r + 1) 0 else jY h (r + 1) (i + 1) := by
    intro i hi
    rw [jY_sI, jY_sI, jY_sY]
    by_cases q : i = 5
    · rw [if_pos ⟨rfl, q⟩, if_pos q]
    · rw [if_neg (by omega), if_neg q, jY_rot, if_pos ⟨rfl, by omega⟩]
  refine ⟨⟨fun i hi => ?_, fun i j hi hj e => ?_⟩, ?_⟩
  · rw [hY i hi]
    split
    · exact br.1 0 (by omega)
    · exact br.1 (i + 1) (by omega)
  · rw [hY i hi, hY j hj] at e
    by_cases q1 : i = 5 <;> by_cases q2 : j = 5
    · omega
    · rw [if_pos q1, if_neg q2] at e
      have := br.2 _ _ (by omega) (by omega) e; omega
    · rw [if_neg q1, if_pos q2] at e
      have := br.2 _ _ (by omega) (by omega) e; omega
    · rw [if_neg q1, if_neg q2] at e
      have := br.2 _ _ (by omega) (by omega) e; omega
  · have e3 : bsh s 3 = s 3 - 1 := if_pos rfl
    have e4 : bsh s 4 = s 4 + 1 := by unfold bsh; rw [if_neg (by omega), if_pos rfl]
    refine ⟨?_, ?_, ?_, ?_, ?_, fun k hk hw => ?_, fun i hi => ?_⟩
    · rw [jI_sI, if_neg (by omega), jI_sI, if_neg (by omega), bsh_lo (by omega) (by omega) (by omega)]; exact p0
    · rw [jI_sI, if_neg (by omega), jI_sI, if_neg (by omega), bsh_lo (by omega) (by omega) (by omega)]; exact p1
    · rw [jI_sI, if_neg (by omega), jI_sI, if_neg (by omega), bsh_lo (by omega) (by omega) (by omega)]; exact p2
    · rw [jI_sI, if_pos ⟨rfl, rfl⟩, e4, p3]
    · rw [jI_sI, if_neg (by omega), jI_sI, if_pos ⟨rfl, rfl⟩, e3, p4]
    · have := hN.lt hk hw
      rw [bsh_lo (by omega) (by omega) (by omega)]; exact p5 k hk hw
    · rw [e3] at hi
      rw [hY i (by omega), if_neg (by omega)]
      obtain ⟨j, hj, ej⟩ := br.1 (i + 1) (by omega)
      have hb := p6 (i + 1) (by omega)
      have hsb := hs.2.2.2.2.2.2.2.2.2.2 (i + 1) (by omega)
      have hb2 := hb.cong (s' := bsh s) (o' := 11 + 33 * i) hN hsb.2.2.2.2.1 (fun t ht => by rw [bsh_at (by omega) (by omega)]; congr 1; omega)
      rw [ej] at hb2 ⊢
      exact hb2.eq (funext fun k => by rw [jI_sI, if_neg (by omega), jI_sI, if_neg (by omega)]; rfl) (funext fun k => by rw [jI_sI, if_neg (by omega), jI_sI, if_neg (by omega)]; rfl) rfl rfl rfl rfl
theorem lose_fr {r : Nat} : Fr r (r + 39) h (jsI (jsI (jsY (jrot h (r + 1) 5) (r + 1) 5 (jY h (r + 1) 0)) r 4 (jI h r 4 - 1)) r 3 (jI h r 3 + 1)) :=
  Fr.trans (Fr.trans (Fr.trans (Fr.rot (by omega) (by omega)) (Fr.sY (by omega) (by omega))) (Fr.sI (by omega) (by omega))) (Fr.sI (by omega) (by omega))
theorem blrs_fr {B : Nat} {t : Int} {vs : Nat} : Fr B (B + 6) h (blrs h B t vs) := Fr.trans (Fr.trans (Fr.trans (Fr.sI (by omega) (by omega)) (Fr.sI (by omega) (by omega))) (Fr.cpy (by omega) (by omega))) (Fr.sI (by omega) (by omega))
/-- a block begins where there is room -/
theorem begin_core {d r : Nat} (hr : SK h r) (br : RB h r) (hN : WN node n) (h3 : 0 ≤ s 3) (h5 : s 3 ≤ 5) (h8 : ∀ i : Nat, (i : Int) < s 3 → s (11 + 33 * i + 2) ≤ 8) (rep : RecRep h r s node n) (pc : Nat)
    (hE : ∀ {Q : Option jA → jH → Prop}, Ex MX0_restart d [.inr (jY h (r + 1) (s 3).toNat), .inl (jI h r 0), .inr (r + 2)] h 0 0 (fun v h2 => V MX6_beginBlock (d + 1) 33 [some (.inr r)] (v.toList ++ []) h2 0 0 Q) → V MX6_beginBlock (d + 1) pc [some (.inr r)] [] h 0 0 Q) :
    V MX6_beginBlock (d + 1) pc [some (.inr r)] [] h 0 0 (fun v g => v = none ∧ Fr r (r + 39) h g ∧ RB g r ∧ RecRep g r (bnw s) node n) := by
  obtain ⟨a1, a2, a3, a4, a5, a6⟩ := id hr
  obtain ⟨p0, p1, p2, p3, p4, p5, p6⟩ := id rep
  obtain ⟨j, hj, ej⟩ := br.1 (s 3).toNat (by omega)
  refine hE (Ex.mono (eX0_restart (by rw [ej]; exact a6 j hj) a5) ?_)
  rintro v g ⟨rfl, rfl⟩
  have hfr := blrs_fr (h := h) (B := jY h (r + 1) (s 3).toNat) (t := jI h r 0) (vs := r + 2)
  have e0 : jI (blrs h (jY h (r + 1) (s 3).toNat) (jI h r 0) (r + 2)) (jY h (r + 1) (s 3).toNat) 0 = s 0 := by
    unfold blrs
    rw [jI_sI, if_neg (by omega), jI_cpy, jI_sI, if_neg (by omega), jI_sI, if_pos ⟨rfl, rfl⟩]; exact p0
  have e1 : jI (blrs h (jY h (r + 1) (s 3).toNat) (jI h r 0) (r + 2)) (jY h (r + 1) (s 3).toNat) 1 = -9 := by
    unfold blrs
    rw [jI_sI, if_neg (by omega), jI_cpy, jI_sI, if_pos ⟨rfl, rfl⟩]
  have e2 : jI (blrs h (jY h (r + 1) (s 3).toNat) (jI h r 0) (r + 2)) (jY h (r + 1) (s 3).toNat + 2) 0 = 0 := by
    unfold blrs
    rw [jI_sI, if_pos ⟨rfl, rfl⟩]
  have e3 : ∀ k, k < 12 → jX (blrs h (jY h (r + 1) (s 3).toNat) (jI h r 0) (r + 2)) (jY h (r + 1) (s 3).toNat + 1) k = jX h (r + 2) k := fun k hk => by
    unfold blrs
    rw [jX_sI, jX_cpy, if_pos ⟨rfl, by omega, by omega⟩]
    show jX h (r + 2) (0 + (k - 0)) = _
    rw [Nat.zero_add, Nat.sub_zero]
  generalize blrs h (jY h (r + 1) (s 3).toNat) (jI h r 0) (r + 2) = g1 at hfr e0 e1 e2 e3
  rw [ej] at hfr e0 e1 e2 e3
  have f0 := (hfr.2.2.2 r (by omega)).1
  have f2 := (hfr.2.2.2 (r + 2) (by omega)).2.1
  have fy := (hfr.2.2.2 (r + 1) (by omega)).2.2
  have c4 : jI g1 r 4 = s 3 := by rw [f0]; exact p4
  apply bX6_beginBlock_33
  case s1 => rw [hfr.2.1]; exact a1
  case r1 => rw [c4]; exact ⟨by omega, by omega⟩
  refine ⟨rfl, (hfr.wide (by omega) (by omega)).trans (Fr.sI (by omega) (by omega)), ?_, ?_⟩
  · have := br.fr (g := jsI g1 r 4 (jI g1 r 4 + 1)) (lo := 0) (hi := 0)
    unfold RB
    rw [jY_sI, fy]
    exact br
  · have elo : ∀ k, k < 11 → k ≠ 3 → bnw s k = s k := fun k hk h3 => bnw_lo h3 (by omega)
    refine ⟨?_, ?_, ?_, ?_, ?_, fun k hk hw => ?_, fun i hi => ?_⟩
    · rw [jI_sI, if_neg (by omega), f0, elo 0 (by omega) (by omega)]; exact p0
    · rw [jI_sI, if_neg (by omega), f0, elo 1 (by omega) (by omega)]; exact p1
    · rw [jI_sI, if_neg (by omega), f0, elo 2 (by omega) (by omega)]; exact p2
    · rw [jI_sI, if_neg (by omega), f0, elo 4 (by omega) (by omega)]; exact p3
    · rw [jI_sI, if_pos ⟨rfl, rfl⟩, c4, bnw_3]
    · have := hN.lt hk hw
      rw [jX_sI, f2, elo _ (by omega) (by omega)]; exact p5 k hk hw
    · rw [bnw_3] at hi
      rw [jY_sI, fy]
      by_cases q : i = (s 3).toNat
      · subst q
        rw [ej]
        refine ⟨?_, ?_, ?_, fun k hk hw => ?_, fun t ht => ?_⟩
        · rw [jI_sI, if_neg (by omega), bnw_b]; exact e0
        · rw [jI_sI, if_neg (by omega), bnw_e]; exact e1
        · rw [jI_sI, if_neg (by omega), bnw_m]; exact e2
        · have hw6 := hN.lt hk hw
          rw [jX_sI, e3 k (by have := hN.1; omega), bnw_f hw6]
          exact p5 k hk hw
        · rw [bnw_m] at ht; omega
      · obtain ⟨j2, hj2, ej2⟩ := br.1 i (by omega)
        have hne : j2 ≠ j := fun z => q (br.2 i _ (by omega) (by omega) (by rw [ej2, ej, z]))
        have hb := p6 i (by omega)
        rw [ej2] at hb ⊢
        have hb2 := (hb.fr hfr (by omega)).cong (s' := bnw s) (o' := 11 + 33 * i) hN (h8 i (by omega)) (fun t ht => bnw_lo (by omega) (by omega))
        exact hb2.eq (funext fun k => by rw [jI_sI, if_neg (by omega)]) (funext fun k => by rw [jI_sI, if_neg (by omega)]) rfl rfl rfl rfl
theorem eX6_begin5 {d r : Nat} (hr : SK h r) (br : RB h r) (hN : WN node n) (h3 : 0 ≤ s 3) (h5 : s 3 ≤ 5) (h8 : ∀ i : Nat, (i : Int) < s 3 → s (11 + 33 * i + 2) ≤ 8) (rep : RecRep h r s node n) :
    Ex MX6_beginBlock (d + 1) [.inr r] h 0 0 (fun v g => v = none ∧ Fr r (r + 39) h g ∧ RB g r ∧ RecRep g r (bnw s) node n) := by
  obtain ⟨a1, a2, a3, a4, a5, a6⟩ := id hr
  have p4 := rep.2.2.2.2.1
  refine Ex_of_V tX6_beginBlock (Nat.le_of_ble_eq_true rfl) ?_
  exact begin_core (d := d) hr br hN h3 h5 h8 rep 0 (fun {Q} hE => by
      apply bX6_beginBlock_0
      case e1 => intro _; rw [p4, a2, a3]; exact hE
      case e2 => rw [p4]; intro q; omega
      case s1 => exact a1
      case s2 => rw [a2, a4]
      case s3 => intro _; rw [p4]; omega
      case s4 => intro _; rw [p4, a2, a4]; show s 3 < (6 : Int); omega
      all_goals (intro _; rw [p4, a2]; obtain ⟨j, hj, ej⟩ := br.1 (s 3).toNat (by omega); rw [ej]; exact (a6 j hj).1))
theorem eX6_beginBlock {d r : Nat} (hr : SK h r) (br : RB h r) (hN : WN node n) (hs : SI s node n K) (hK : K ≤ 100000) (rep : RecRep h r s node n) :
    Ex MX6_beginBlock (d + 1) [.inr r] h 0 0 (fun v g => v = none ∧ Fr r (r + 39) h g ∧ RB g r ∧ RecRep g r (bbg s) node n) := by
  obtain ⟨a1, a2, a3, a4, a5, a6⟩ := id hr
  obtain ⟨p0, p1, p2, p3, p4, p5, p6⟩ := id rep
  obtain ⟨i0, i1, i2, i3, i4, i5, i6, i7, i8, i9, i10⟩ := id hs
  by_cases q6 : s 3 = 6
  · have hbb : bbg s = bnw (bsh s) := by unfold bbg; rw [if_pos q6]
    rw [hbb]
    refine Ex_of_V tX6_beginBlock (Nat.le_of_ble_eq_true rfl) ?_
    apply bX6_beginBlock_0
    case e1 => rw [p4]; intro q; exact absurd q6 q
    case e2 =>
      intro _
      refine Ex.mono (eX6_loseOldest hr br (by omega) (by omega) (by omega)) ?_
      rintro v g ⟨rfl, rfl⟩
      obtain ⟨br2, rep2⟩ := lose_rep br hN hs q6 rep
      have fr2 := lose_fr (h := h) (r := r)
      generalize jsI (jsI (jsY (jrot h (r + 1) 5) (r + 1) 5 (jY h (r + 1) 0)) r 4 (jI h r 4 - 1)) r 3 (jI h r 3 + 1) = g1 at br2 rep2 fr2
      have e3 : bsh s 3 = s 3 - 1 := if_pos rfl
      have hr2 := hr.fr fr2.1 fr2.2.1
      obtain ⟨y1, y2, y3, y4, y5, y6⟩ := id hr2
      have hc := begin_core (d := d) hr2 br2 hN (s := bsh s) (by omega) (by omega) (fun i hi => by
        have hsb := (SI_bsh hs q6).2.2.2.2.2.2.2.2.2.2 i hi
        exact hsb.2.2.2.2.1) rep2 13 (fun {Q} hE => by
        have q4 := rep2.2.2.2.2.1
        apply bX6_beginBlock_13
        case s1 => exact y1
        case s2 => rw [y2, y4]
        case s3 => rw [q4]; omega
        case s4 => rw [q4, y2, y4]; show bsh s 3 < (6 : Int); omega
        case e1 => rw [q4, y2, y3]; exact hE
        all_goals (rw [q4, y2]; obtain ⟨j, hj, ej⟩ := br2.1 (bsh s 3).toNat (by omega); rw [ej]; exact (y6 j hj).1))
      refine V_mono hc ?_
      rintro v g2 ⟨rfl, c1, c2, c3⟩
      exact ⟨rfl, fr2.trans c1, c2, c3⟩
    all_goals (first | exact a1 | (rw [a2, a4]; done) | (intro q; rw [p4] at q; exact absurd q6 q))
  · have hbb : bbg s = bnw s := by unfold bbg; rw [if_neg q6]
    rw [hbb]
    exact (eX6_begin5 (d := d) hr br hN (by omega) (by omega) (fun i hi => (i10 i hi).2.2.2.2.1) rep)
end KH
