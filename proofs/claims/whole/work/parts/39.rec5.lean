/-! ===== SignalWaves$Recording: give, turn; SignalWaves$Past ===== -/
section KJ
variable {h g : jH} {s node : Nat → Int} {n : Nat} {K : Int}
/-- wires have numbers of their own -/
def WD (node : Nat → Int) (n : Nat) : Prop := ∀ k k' : Nat, k < n → k' < n → node (6 * k) = 0 → node (6 * k') = 0 → node (6 * k + 5) = node (6 * k' + 5) → k = k'
theorem eX6_give {d r k w : Nat} {v : Int} (hr : SK h r) (br : RB h r) (hN : WN node n) (hD : WD node n) (hs : SI s node n K) (hK : K ≤ 99999) (rep : RecRep h r s node n) (hk : k < n) (hkw : node (6 * k) = 0) (hw : node (6 * k + 5) = (w : Int)) (h0 : 0 ≤ v) (h1 : v ≤ 255) :
    Ex MX6_give (d + 2) [.inr r, .inl (k : Int), .inl v] h 0 0 (fun r2 g => r2 = none ∧ Fr r (r + 39) h g ∧ RB g r ∧ RecRep g r (gv s w v) node n) := by
  obtain ⟨a1, a2, a3, a4, a5, a6⟩ := id hr
  obtain ⟨p0, p1, p2, p3, p4, p5, p6⟩ := id rep
  obtain ⟨i0, i1, i2, i3, i4, i5, i6, i7, i8, i9, i10⟩ := id hs
  have hn12 := hN.1
  have w6 : w < 6 := by have := hN.2 k hk hkw; omega
  have hinj : ∀ k', k' < n → node (6 * k') = 0 → node (6 * k' + 5) = (w : Int) → k' = k := fun k' hk' hw' e => hD k' k hk' hk hw' hkw (e.trans hw.symm)
  obtain ⟨l, hl, hlo⟩ := lo_at i5
  refine Ex_of_V tX6_give (Nat.le_of_ble_eq_true rfl) ?_
  by_cases hon : s 1 = 0
  · apply bX6_give_0
    case q1 =>
      intro _
      refine ⟨rfl, Fr.sX (by rw [a3]; omega) (by rw [a3]; omega), br, ?_⟩
      unfold gv
      rw [if_pos hon, a3, Int.toNat_natCast]
      have e : ∀ j, j ≠ 5 + w → up s (5 + w) v j = s j := fun j hj => if_neg hj
      refine ⟨by rw [e _ (by omega)]; exact p0, by rw [e _ (by omega)]; exact p1, by rw [e _ (by omega)]; exact p2, by rw [e _ (by omega)]; exact p3, by rw [e _ (by omega)]; exact p4, fun k' hk' hw' => ?_, fun i hi => ?_⟩
      · have hw9 := hN.2 k' hk' hw'
        by_cases q : k' = k
        · subst q
          rw [jX_sX, if_pos ⟨rfl, rfl⟩]
          have : wr node k' = w := by unfold wr; rw [hw]; omega
          rw [this]
          exact (if_pos rfl).symm
        · have : wr node k' ≠ w := fun z => q (hinj k' hk' hw' (by unfold wr at z; omega))
          rw [jX_sX, if_neg (by omega), e _ (by omega)]
          exact p5 k' hk' hw'
      · rw [e _ (by omega)] at hi
        obtain ⟨j, hj, ej⟩ := br.1 i (by omega)
        have hb := (p6 i hi).cong (s' := up s (5 + w) v) (o' := 11 + 33 * i) hN (i10 i hi).2.2.2.2.1 (fun t ht => e _ (by omega))
        rw [show jY (jsX h (r + 2) k v) (r + 1) i = jY h (r + 1) i from rfl]
        rw [ej] at hb ⊢
        exact hb.eq rfl rfl (funext fun i => by rw [jX_sX, if_neg (by omega)]) (funext fun i => by rw [jX_sX, if_neg (by omega)]) (funext fun i => by rw [jX_sX, if_neg (by omega)]) (funext fun i => by rw [jX_sX, if_neg (by omega)])
    all_goals (try (intro q; rw [p1] at q; exact absurd hon q))
    all_goals (first | exact a1 | (rw [a2, a4]; done) | (rw [a3, a5]; done) | (intros; rw [a3, a5]; show (k : Int) < 12; omega) | (intros; omega))
  · have hlb := p6 l (by omega)
    obtain ⟨j, hj, ej⟩ := br.1 l (by omega)
    have hsl := i10 l (by omega)
    have c4 : (jI h r 4 - 1).toNat = l := by rw [p4, hl]; omega
    have bk := a6 j hj
    rw [ej] at hlb
    have hcount : jI h (r + 3 + 6 * j + 2) 0 = s (lo s + 2) := by rw [hlo]; exact hlb.2.2.1
    have hgv : gv s w v = gch (up (if s 2 ≤ s (lo s + 2) then bbg s else s) (5 + w) v) w v := by unfold gv; rw [if_neg hon]
    rw [hgv]
    by_cases hfull : s 2 ≤ s (lo s + 2)
    · rw [if_pos hfull]
      apply bX6_give_0
      case e1 =>
        intro _ q
        rw [a2, c4, ej, bk.2.2.1, hcount, p2] at q
        omega
      case e2 =>
        intro _ _
        refine Ex.mono (eX6_beginBlock hr br hN hs (by omega) rep) ?_
        rintro v2 g1 ⟨rfl, fr1, br1, rep1⟩
        have hs1 := SI_bbg hs
        have hr1 := hr.fr fr1.1 fr1.2.1
        have e0 : (bbg s) 0 = s 0 := by
          unfold bbg
          split
          · rw [bnw_lo (by omega) (by omega), bsh_lo (by omega) (by omega) (by omega)]
          · rw [bnw_lo (by omega) (by omega)]
        obtain ⟨l1, hl1, hlo1⟩ := lo_at hs1.2.2.2.2.2.1
        have h61 := hs1.2.2.2.2.2.2.1
        obtain ⟨j1, hj1, ej1⟩ := br1.1 l1 (by omega)
        have c41 : (jI g1 r 4 - 1).toNat = l1 := by rw [rep1.2.2.2.2.1, hl1]; omega
        have bk1 := hr1.2.2.2.2.2 j1 hj1
        have hlb1 := rep1.2.2.2.2.2.2 l1 (by omega)
        rw [ej1] at hlb1
        have hzero : (bbg s) (lo (bbg s) + 2) = 0 := by
          unfold bbg
          split
          · have e3 : bsh s 3 = s 3 - 1 := if_pos rfl
            rw [show lo (bnw (bsh s)) = 11 + 33 * (bsh s 3).toNat by unfold lo; rw [bnw_3]; omega]
            exact bnw_m
          · rw [show lo (bnw s) = 11 + 33 * (s 3).toNat by unfold lo; rw [bnw_3]; omega]
            exact bnw_m
        have hcount1 : jI g1 (r + 3 + 6 * j1 + 2) 0 = 0 := by rw [← hzero, hlo1]; exact hlb1.2.2.1
        have hB1 : jY g1 (r + 1) (bbg s 3 - 1).toNat = r + 3 + 6 * j1 := by rw [← ej1]; congr 1; omega
        obtain ⟨t1, t2, t3⟩ := give_rep (v := v) hr1 br1 hN hs1 rep1 (by rw [hzero]; decide) hk hkw hw hinj hB1
        apply bX6_give_35
        case s1 => exact hr1.1
        case s2 => rw [hr1.2.1, hr1.2.2.2.1]
        case r1 => rw [rep1.2.2.2.2.1]; exact ⟨by omega, by omega⟩
        case s3 => rw [rep1.2.2.2.2.1]; omega
        case s4 => rw [rep1.2.2.2.2.1, hr1.2.1, hr1.2.2.2.1]; show bbg s 3 - 1 < (6 : Int); omega
        case e1 =>
          rw [hr1.2.1, c41, ej1, bk1.2.2.1, show jI g1 r 0 = s 0 from rep1.1.trans e0]
          refine Ex.mono (eX1_add bk1.ch (by rw [hcount1]; decide) (by rw [hcount1]; decide) (by omega)) ?_
          rintro v3 g2 ⟨rfl, rfl⟩
          apply bX6_give_58
          case q1 =>
            rw [show jP (chadd g1 (r + 3 + 6 * j1 + 2) (s 0) (k : Int) v) r 6 = r + 2 from hr1.2.2.1, Int.toNat_natCast]
            rw [e0] at t1 t2 t3
            exact ⟨rfl, fr1.trans t1, t2, t3⟩
          case s1 => exact hr1.1
          case s2 => show (jS g1 (jP g1 r 6)).1 = 16; rw [hr1.2.2.1, hr1.2.2.2.2.1]
          case s3 => omega
          case s4 => show (k : Int) < ((jS g1 (jP g1 r 6)).2 : Int); rw [hr1.2.2.1, hr1.2.2.2.2.1]; show (k : Int) < 12; omega
        all_goals (rw [hr1.2.1, c41, ej1]; first | exact bk1.1 | (rw [bk1.2.2.1]; exact bk1.2.2.2.2.1))
      case q1 => rw [p1]; intro q; exact absurd q hon
      case r1 => intro _; rw [p4]; exact ⟨by omega, by omega⟩
      case r2 => intro _ _; rw [p4]; exact ⟨by omega, by omega⟩
      all_goals (first | exact a1 | (rw [a2, a4]; done) | (rw [a3, a5]; done) | (intros; rw [a2, c4, ej]; exact bk.1) | (intros; rw [a2, c4, ej, bk.2.2.1]; exact bk.2.2.2.2.1) | (intros; rw [a3, a5]; show (k : Int) < 12; omega) | (intros; rw [p4]; omega) | (intros; rw [p4, a2, a4]; show s 3 - 1 < (6 : Int); omega) | (rw [a2, c4, ej]; exact bk.1) | (intros; omega))
    · rw [if_neg hfull]
      have hB : jY h (r + 1) (s 3 - 1).toNat = r + 3 + 6 * j := by rw [← ej]; congr 1; omega
      obtain ⟨t1, t2, t3⟩ := give_rep (v := v) hr br hN hs rep (by omega) hk hkw hw hinj hB
      apply bX6_give_0
      case e1 =>
        intro _ _
        rw [a2, c4, ej, bk.2.2.1, p0]
        refine Ex.mono (eX1_add bk.ch (by rw [hcount, hlo]; exact hsl.2.2.2.1) (by rw [hcount]; show s (lo s + 2) < (8 : Int); omega) (by omega)) ?_
        rintro v3 g2 ⟨rfl, rfl⟩
        apply bX6_give_58
        case q1 =>
          rw [show jP (chadd h (r + 3 + 6 * j + 2) (s 0) (k : Int) v) r 6 = r + 2 from a3, Int.toNat_natCast]
          exact ⟨rfl, t1, t2, t3⟩
        case s1 => exact a1
        case s2 => show (jS h (jP h r 6)).1 = 16; rw [a3, a5]
        case s3 => omega
        case s4 => show (k : Int) < ((jS h (jP h r 6)).2 : Int); rw [a3, a5]; show (k : Int) < 12; omega
      case e2 =>
        intro _ q
        rw [a2, c4, ej, bk.2.2.1, hcount, p2] at q
        omega
      case q1 => rw [p1]; intro q; exact absurd q hon
      case r1 => intro _; rw [p4]; exact ⟨by omega, by omega⟩
      case r2 => intro _ _; rw [p4]; exact ⟨by omega, by omega⟩
      all_goals (first | exact a1 | (rw [a2, a4]; done) | (rw [a3, a5]; done) | (intros; rw [a2, c4, ej]; exact bk.1) | (intros; rw [a2, c4, ej, bk.2.2.1]; exact bk.2.2.2.2.1) | (intros; rw [a3, a5]; show (k : Int) < 12; omega) | (intros; rw [p4]; omega) | (intros; rw [p4, a2, a4]; show s 3 - 1 < (6 : Int); omega) | (rw [a2, c4, ej]; exact bk.1) | (intros; omega))
theorem eX6_turn {d r : Nat} {b : Int} (hb : b = 0 ∨ b = 1) (hr : SK h r) (br : RB h r) (hN : WN node n) (hs : SI s node n K) (hK : K ≤ 99999) (rep : RecRep h r s node n) :
    Ex MX6_turn (d + 2) [.inr r, .inl b] h 0 0 (fun r2 g => r2 = none ∧ Fr r (r + 39) h g ∧ RB g r ∧ RecRep g r (dmp s b) node n) := by
  obtain ⟨a1, a2, a3, a4, a5, a6⟩ := id hr
  obtain ⟨p0, p1, p2, p3, p4, p5, p6⟩ := id rep
  obtain ⟨i0, i1, i2, i3, i4, i5, i6, i7, i8, i9, i10⟩ := id hs
  obtain ⟨l, hl, hlo⟩ := lo_at i5
  obtain ⟨j, hj, ej⟩ := br.1 l (by omega)
  have c4 : (jI h r 4 - 1).toNat = l := by rw [p4, hl]; omega
  have bk := a6 j hj
  have rep1 : RecRep (jsI h r 1 b) r (up s 1 b) node n := by
    have e : ∀ t, t ≠ 1 → up s 1 b t = s t := fun t ht => if_neg ht
    refine ⟨by rw [jI_sI, if_neg (by omega)]; exact p0, by rw [jI_sI, if_pos ⟨rfl, rfl⟩]; rfl, by rw [jI_sI, if_neg (by omega)]; exact p2, by rw [jI_sI, if_neg (by omega)]; exact p3, by rw [jI_sI, if_neg (by omega)]; exact p4, fun k hk hw => by rw [e _ (by omega)]; exact p5 k hk hw, fun i hi => ?_⟩
    rw [e 3 (by omega)] at hi
    obtain ⟨j2, hj2, ej2⟩ := br.1 i (by omega)
    have hb := (p6 i hi).cong (s' := up s 1 b) (o' := 11 + 33 * i) hN (i10 i hi).2.2.2.2.1 (fun t ht => e _ (by omega))
    rw [show jY (jsI h r 1 b) (r + 1) i = jY h (r + 1) i from rfl]
    rw [ej2] at hb ⊢
    exact hb.eq (funext fun i => by rw [jI_sI, if_neg (by omega)]) (funext fun i => by rw [jI_sI, if_neg (by omega)]) rfl rfl rfl rfl
  refine Ex_of_V tX6_turn (Nat.le_of_ble_eq_true rfl) ?_
  apply bX6_turn_0
  case s1 => exact a1
  case z1 => exact hb
  case r1 => intro _; rw [p4]; exact ⟨by omega, by omega⟩
  case q1 =>
    intro hb0
    subst hb0
    rw [a2, c4, ej, p0]
    refine ⟨rfl, Fr.trans (Fr.sI (by omega) (by omega)) (Fr.sI (by omega) (by omega)), br, ?_⟩
    unfold dmp
    rw [if_pos rfl, hlo]
    have e : ∀ t, t ≠ 11 + 33 * l + 1 → up (up s 1 0) (11 + 33 * l + 1) (s 0) t = up s 1 0 t := fun t ht => if_neg ht
    obtain ⟨r0, r1, r2, r3, r4, r5, r6⟩ := rep1
    refine ⟨by rw [jI_sI, if_neg (by omega), e _ (by omega)]; exact r0, by rw [jI_sI, if_neg (by omega), e _ (by omega)]; exact r1, by rw [jI_sI, if_neg (by omega), e _ (by omega)]; exact r2, by rw [jI_sI, if_neg (by omega), e _ (by omega)]; exact r3, by rw [jI_sI, if_neg (by omega), e _ (by omega)]; exact r4, fun k hk hw => by have := hN.lt hk hw; rw [e _ (by omega)]; exact r5 k hk hw, fun i hi => ?_⟩
    rw [e 3 (by omega)] at hi
    have hi3 : (i : Int) < s 3 := hi
    have hb := r6 i hi
    rw [show jY (jsI (jsI h r 1 0) (r + 3 + 6 * j) 1 (s 0)) (r + 1) i = jY h (r + 1) i from rfl]
    rw [show jY (jsI h r 1 0) (r + 1) i = jY h (r + 1) i from rfl] at hb
    by_cases q : i = l
    · subst q
      rw [ej] at hb ⊢
      obtain ⟨q0, q1, q2, q3, q4⟩ := hb
      refine ⟨by rw [jI_sI, if_neg (by omega), e _ (by omega)]; exact q0, ?_, by rw [jI_sI, if_neg (by omega), e _ (by omega)]; exact q2, fun k hk hw => by have := hN.lt hk hw; rw [e _ (by omega)]; exact q3 k hk hw, fun t ht => ?_⟩
      · rw [jI_sI, if_pos ⟨rfl, rfl⟩]; exact (if_pos rfl).symm
      · rw [e _ (by omega)] at ht
        rw [e _ (by omega), e _ (by omega), e _ (by omega)]
        exact q4 t ht
    · obtain ⟨j2, hj2, ej2⟩ := br.1 i (by omega)
      have hne : j2 ≠ j := fun z => q (br.2 i l (by omega) (by omega) (by rw [ej2, ej, z]))
      have h8 : up s 1 0 (11 + 33 * i + 2) ≤ 8 := by rw [show up s 1 0 (11 + 33 * i + 2) = s (11 + 33 * i + 2) from if_neg (by omega)]; exact (i10 i hi3).2.2.2.2.1
      have hb2 := hb.cong (s' := up (up s 1 0) (11 + 33 * l + 1) (s 0)) (o' := 11 + 33 * i) hN h8 (fun t ht => e _ (by omega))
      rw [ej2] at hb2 ⊢
      exact hb2.eq (funext fun t => by rw [jI_sI, if_neg (by omega)]) (funext fun t => by rw [jI_sI, if_neg (by omega)]) rfl rfl rfl rfl
  case e1 =>
    intro hb0
    have hb1 : b = 1 := by omega
    subst hb1
    refine Ex.mono (eX6_beginBlock (h := jsI h r 1 1) (s := up s 1 1) (hr.fr rfl rfl) br hN (SI_on hs (Or.inr rfl)) (by omega) rep1) ?_
    rintro v2 g1 ⟨rfl, fr1, br1, rep2⟩
    apply bX6_turn_16
    refine ⟨rfl, Fr.trans (Fr.sI (by omega) (by omega)) fr1, br1, ?_⟩
    unfold dmp
    rw [if_neg (by decide)]
    exact rep2
  all_goals (first | (rw [a2, a4]; done) | (intros; rw [a2, c4, ej]; exact bk.1) | (intros; rw [p4]; omega) | (intros; rw [p4, a2, a4]; show s 3 - 1 < (6 : Int); omega))
end KJ
