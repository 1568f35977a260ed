/-! ===== both sides: count ===== -/
section MB
variable {h g : jH} {node wi sn code cm s past : Nat → Int} {n nw nd ns u D : Nat} {K : Int}
def raa (s : Nat → Int) (nw : Nat) : Nat → Int
  | 0 => 0
  | k + 1 => raa s nw k + rob s nw k
def caa (s : Nat → Int) : Nat → Int
  | 0 => 0
  | k + 1 => caa s k + (bM s k : Int)
theorem rob_b {b : Nat} (hs : SI s node n K) (hb : (b : Int) < s 3) (hnw : nw ≤ 6) : 0 ≤ rob s nw b ∧ rob s nw b ≤ 100 := by
  have hB := hs.2.2.2.2.2.2.2.2.2.2 b hb
  have hm : bM s b ≤ 8 := by unfold bM; have := hB.2.2.2.2.1; omega
  unfold rob rm
  have h1 := rmc_b (bV s b) (bT s b) 0 (s (11 + 33 * b)) (bM s b)
  have h2 := dc_le (bV s b) 0 (bM s b)
  constructor <;> omega
theorem raa_b (hs : SI s node n K) (hnw : nw ≤ 6) : ∀ k : Nat, (k : Int) ≤ s 3 → 0 ≤ raa s nw k ∧ raa s nw k ≤ 100 * k
  | 0, _ => ⟨Int.le_refl _, Int.le_refl _⟩
  | k + 1, q => by
    have h1 := raa_b hs hnw k (by omega)
    have h2 := rob_b (nw := nw) hs (b := k) (by omega) hnw
    unfold raa
    omega
theorem caa_b (hs : SI s node n K) : ∀ k : Nat, (k : Int) ≤ s 3 → 0 ≤ caa s k ∧ caa s k ≤ 8 * k
  | 0, _ => ⟨Int.le_refl _, Int.le_refl _⟩
  | k + 1, q => by
    have h1 := caa_b hs k (by omega)
    have hB := hs.2.2.2.2.2.2.2.2.2.2 k (by omega)
    have hm : bM s k ≤ 8 := by unfold bM; have := hB.2.2.2.2.1; omega
    unfold caa
    omega
theorem eX8_roomOfAll {d : Nat} (hI : IV h D node n nw nd wi sn ns code cm s past u K) :
    Ex MX8_roomOfAll (d + 5) [.inr 2] h 0 0 (fun r g => r = some (.inl (raa s nw (s 3).toNat)) ∧ g = h) := by
  have hx := hI.x
  have hs := hI.si
  have h5 := hs.2.2.2.2.2.1
  have h6 := hs.2.2.2.2.2.2.1
  refine Ex_of_V tX8_roomOfAll (Nat.le_of_ble_eq_true rfl) ?_
  apply bX8_roomOfAll_0
  have key : ∀ c i : Nat, i + c = (s 3).toNat → V MX8_roomOfAll (d + 5) 4 [some (.inr 2), some (.inl (raa s nw i)), some (.inl (i : Int))] [] h 0 0 (fun r g => r = some (.inl (raa s nw (s 3).toNat)) ∧ g = h) := by
    intro c
    induction c with
    | zero =>
      intro i hi
      apply bX8_roomOfAll_4
      case q1 => intro _; rw [show i = (s 3).toNat by omega]; exact ⟨rfl, rfl⟩
      all_goals (try rw [hI.b4])
      all_goals first
        | exact hx.s2
        | exact hI.rk
        | (rw [hI.bs]; done)
        | (intro z; omega)
    | succ c ih =>
      intro i hi
      have hb := rob_b (nw := nw) hs (b := i) (by omega) hI.nw6
      have hr := raa_b (nw := nw) hs hI.nw6 i (by omega)
      apply bX8_roomOfAll_4
      case q1 => rw [hI.b4]; intro z; omega
      case e1 =>
        intro _
        rw [Int.toNat_natCast]
        refine Ex.mono (eX8_roomOf hI (by omega)) ?_
        rintro r g ⟨rfl, rfl⟩
        apply bX8_roomOfAll_29
        case k1 =>
          rw [show (i : Int) + 1 = ((i + 1 : Nat) : Int) by omega]
          exact ih (i + 1) (by omega)
        all_goals exact ⟨by omega, by omega⟩
      all_goals (try rw [hI.b4])
      all_goals first
        | exact hx.s2
        | exact hI.rk
        | (rw [hI.bs]; done)
        | (intros; omega)
        | (intros; rw [hI.bs]; refine Int.lt_of_le_of_lt (b := 5) ?_ (by decide); omega)
  exact key (s 3).toNat 0 (by omega)
theorem eX8_changesInAll {d : Nat} (hI : IV h D node n nw nd wi sn ns code cm s past u K) :
    Ex MX8_changesInAll d [.inr 2] h 0 0 (fun r g => r = some (.inl (caa s (s 3).toNat)) ∧ g = h) := by
  have hx := hI.x
  have hs := hI.si
  have h5 := hs.2.2.2.2.2.1
  have h6 := hs.2.2.2.2.2.2.1
  refine Ex_of_V tX8_changesInAll (Nat.le_of_ble_eq_true rfl) ?_
  apply bX8_changesInAll_0
  have key : ∀ c i : Nat, i + c = (s 3).toNat → V MX8_changesInAll d 4 [some (.inr 2), some (.inl (caa s i)), some (.inl (i : Int))] [] h 0 0 (fun r g => r = some (.inl (caa s (s 3).toNat)) ∧ g = h) := by
    intro c
    induction c with
    | zero =>
      intro i hi
      apply bX8_changesInAll_4
      case q1 => intro _; rw [show i = (s 3).toNat by omega]; exact ⟨rfl, rfl⟩
      all_goals (try rw [hI.b4])
      all_goals first
        | exact hx.s2
        | exact hI.rk
        | (rw [hI.bs]; done)
        | (intro z; omega)
    | succ c ih =>
      intro i hi
      obtain ⟨j, hj, ej, bk, br⟩ := hI.blk (b := i) (by omega)
      obtain ⟨c1, c2, c3, c4, c5, c6, c7, c8⟩ := hI.chg (b := i) (by omega) bk br
      have hr := caa_b hs i (by omega)
      apply bX8_changesInAll_4
      case q1 => rw [hI.b4]; intro z; omega
      case k1 =>
        intro _
        rw [Int.toNat_natCast, ej, c1, show (i : Int) + 1 = ((i + 1 : Nat) : Int) by omega]
        exact ih (i + 1) (by omega)
      all_goals (try rw [hI.b4])
      all_goals (try rw [Int.toNat_natCast])
      all_goals (try rw [ej])
      all_goals (try rw [c1])
      all_goals first
        | exact hx.s2
        | exact hI.rk
        | (rw [hI.bs]; done)
        | (intros; exact ⟨by omega, by omega⟩)
        | (intros; omega)
        | (intros; exact bk.1)
        | (intros; exact c4)
        | (intros; rw [hI.bs]; refine Int.lt_of_le_of_lt (b := 5) ?_ (by decide); omega)
  exact key (s 3).toNat 0 (by omega)
theorem eX9_roomOfAll {d : Nat} (hM : MK h) (es : jX h 482 = s) (hs : SI s node n K) (hw : jI h 476 2 = (nw : Int)) (hnw : nw ≤ 6) :
    Ex MX9_roomOfAll (d + 3) [.inr 476] h 0 0 (fun r g => r = some (.inl (raa s nw (s 3).toNat)) ∧ MF (fun b => b = 500 ∨ b = 501 ∨ b = 502) (fun b => b = 45 ∨ b = 47) h g) := by
  have h5 := hs.2.2.2.2.2.1
  have h6 := hs.2.2.2.2.2.2.1
  refine Ex_of_V tX9_roomOfAll (Nat.le_of_ble_eq_true rfl) ?_
  apply bX9_roomOfAll_0
  have key : ∀ c i : Nat, i + c = (s 3).toNat → ∀ g, MF (fun b => b = 500 ∨ b = 501 ∨ b = 502) (fun b => b = 45 ∨ b = 47) h g → V MX9_roomOfAll (d + 3) 4 [some (.inr 476), some (.inl (raa s nw i)), some (.inl (i : Int))] [] g 0 0 (fun r g => r = some (.inl (raa s nw (s 3).toNat)) ∧ MF (fun b => b = 500 ∨ b = 501 ∨ b = 502) (fun b => b = 45 ∨ b = 47) h g) := by
    intro c
    induction c with
    | zero =>
      intro i hi g f
      have hM2 := f.mk hM
      have m3 : jX g (jP g 476 9) 3 = s 3 := by rw [hM2.p9, f.2.2.2.2.1 482 (by omega), es]
      apply bX9_roomOfAll_4
      case q1 => intro _; rw [show i = (s 3).toNat by omega]; exact ⟨rfl, f⟩
      all_goals (try rw [m3])
      all_goals first
        | exact hM2.x
        | (rw [hM2.p9, hM2.s482]; done)
        | (rw [hM2.p9, hM2.s482]; decide)
        | (intro z; omega)
    | succ c ih =>
      intro i hi g f
      have hM2 := f.mk hM
      have m3 : jX g (jP g 476 9) 3 = s 3 := by rw [hM2.p9, f.2.2.2.2.1 482 (by omega), es]
      have hb := rob_b (nw := nw) hs (b := i) (by omega) hnw
      have hr := raa_b (nw := nw) hs hnw i (by omega)
      apply bX9_roomOfAll_4
      case q1 => rw [m3]; intro z; omega
      case e1 =>
        intro _
        refine Ex.mono (eX9_roomOfBlock (b := i) hM2 ((f.2.2.2.2.1 482 (by omega)).trans es) hs (by omega) (by rw [f.2.2.2.2.2.2 2 (by omega)]; exact hw) hnw) ?_
        rintro r g2 ⟨rfl, f2, -⟩
        apply bX9_roomOfAll_20
        case k1 =>
          rw [show (i : Int) + 1 = ((i + 1 : Nat) : Int) by omega]
          exact ih (i + 1) (by omega) g2 (f.trans f2)
        all_goals exact ⟨by omega, by omega⟩
      all_goals (try rw [m3])
      all_goals first
        | exact hM2.x
        | (rw [hM2.p9, hM2.s482]; done)
        | (rw [hM2.p9, hM2.s482]; decide)
        | (intros; omega)
  exact key (s 3).toNat 0 (by omega) h MF.rf
theorem eX9_changes {d : Nat} (hM : MK h) (es : jX h 482 = s) (hs : SI s node n K) :
    Ex MX9_changes (d + 1) [.inr 476] h 0 0 (fun r g => r = some (.inl (caa s (s 3).toNat)) ∧ g = h) := by
  have h5 := hs.2.2.2.2.2.1
  have h6 := hs.2.2.2.2.2.2.1
  refine Ex_of_V tX9_changes (Nat.le_of_ble_eq_true rfl) ?_
  apply bX9_changes_0
  have m3 : jX h (jP h 476 9) 3 = s 3 := by rw [hM.p9, es]
  have key : ∀ c i : Nat, i + c = (s 3).toNat → V MX9_changes (d + 1) 4 [some (.inr 476), some (.inl (caa s i)), some (.inl (i : Int))] [] h 0 0 (fun r g => r = some (.inl (caa s (s 3).toNat)) ∧ g = h) := by
    intro c
    induction c with
    | zero =>
      intro i hi
      apply bX9_changes_4
      case q1 => intro _; rw [show i = (s 3).toNat by omega]; exact ⟨rfl, rfl⟩
      all_goals (try rw [m3])
      all_goals first
        | exact hM.x
        | (rw [hM.p9, hM.s482]; done)
        | (rw [hM.p9, hM.s482]; decide)
        | (intro z; omega)
    | succ c ih =>
      intro i hi
      have hr := caa_b hs i (by omega)
      have hB := hs.2.2.2.2.2.2.2.2.2.2 i (by omega)
      have em : jX h (jP h 476 9) ((11 + 33 * (i : Int) + 2).toNat) = (bM s i : Int) := by
        rw [hM.p9, es, show (11 + 33 * (i : Int) + 2).toNat = 11 + 33 * i + 2 by omega]
        unfold bM
        have := hB.2.2.2.1
        omega
      have hm8 : bM s i ≤ 8 := by unfold bM; have := hB.2.2.2.2.1; omega
      apply bX9_changes_4
      case q1 => rw [m3]; intro z; omega
      case k1 =>
        intro _
        rw [em, show (i : Int) + 1 = ((i + 1 : Nat) : Int) by omega]
        exact ih (i + 1) (by omega)
      all_goals (try rw [m3])
      all_goals (try rw [em])
      all_goals first
        | exact hM.x
        | (rw [hM.p9, hM.s482]; done)
        | (rw [hM.p9, hM.s482]; decide)
        | (intros; exact ⟨by omega, by omega⟩)
        | (intros; omega)
        | (intros; rw [hM.p9, hM.s482]; refine Int.lt_of_le_of_lt (b := 208) ?_ (by decide); omega)
  exact key (s 3).toNat 0 (by omega)
def cnv (s : Nat → Int) (n nw ns o c u : Nat) (what : Int) : Int :=
  if what = 0 then n else if what = 1 then nw else if what = 2 then ns else if what = 3 then s 0 else if what = 4 then s 1 else if what = 5 then s 2 else if what = 6 then s 3 else if what = 7 then s 4 else if what = 8 then caa s (s 3).toNat else if what = 9 then raa s nw (s 3).toNat else if what = 10 then o else if what = 11 then c else if what = 12 then u else -1
theorem eX8_count {d o c : Nat} {what : Int} (hI : IV h D node n nw nd wi sn ns code cm s past u K) (ho : jI h 2 10 = (o : Int)) (hc : jI h 3 1 = (c : Int)) :
    Ex MX8_count (d + 6) [.inr 2, .inl what] h 0 0 (fun r g => r = some (.inl (cnv s n nw ns o c u what)) ∧ g = h) := by
  have hx := hI.x
  have hs1 := hI.si.2.2.1
  obtain ⟨r0, r1, r2, r3, r4, r5⟩ := id hI.dr
  obtain ⟨q0, q1, q2, q3, q4, -⟩ := id hI.rr
  refine Ex_of_V tX8_count (Nat.le_of_ble_eq_true rfl) ?_
  apply bX8_count_0
  case e1 =>
    intro n0 n1 n2 n3 n4 n5 n6 n7 n8
    refine Ex.mono (eX8_changesInAll hI) ?_
    rintro r g ⟨rfl, rfl⟩
    apply bX8_count_144
    refine ⟨?_, rfl⟩
    subst n8
    rfl
  case e2 =>
    intro n0 n1 n2 n3 n4 n5 n6 n7 n8 n9
    refine Ex.mono (eX8_roomOfAll hI) ?_
    rintro r g ⟨rfl, rfl⟩
    apply bX8_count_149
    refine ⟨?_, rfl⟩
    subst n9
    rfl
  case k1 =>
    rw [hx.p4, q1]
    intro _ _ _ _ z z2
    apply bX8_count_115
    subst z
    refine ⟨?_, rfl⟩
    show some (Sum.inl 0) = some (Sum.inl (s 1))
    rw [z2]
  case k2 =>
    rw [hx.p4, q1]
    intro _ _ _ _ z z2
    apply bX8_count_115
    subst z
    refine ⟨?_, rfl⟩
    show some (Sum.inl 1) = some (Sum.inl (s 1))
    rw [show s 1 = 1 by omega]
  case q1 => rw [hI.n0]; intro z; subst z; exact ⟨rfl, rfl⟩
  case q2 => rw [hI.w1]; intro _ z; subst z; exact ⟨rfl, rfl⟩
  case q3 => rw [hI.dd.2.1, r3]; intro _ _ z; subst z; exact ⟨rfl, rfl⟩
  case q4 => rw [hx.p4, q0]; intro _ _ _ z; subst z; exact ⟨rfl, rfl⟩
  case q5 => rw [hx.p4, q2]; intro _ _ _ _ _ z; subst z; exact ⟨rfl, rfl⟩
  case q6 => rw [hx.p4, q4]; intro _ _ _ _ _ _ z; subst z; exact ⟨rfl, rfl⟩
  case q7 => rw [hx.p4, q3]; intro _ _ _ _ _ _ _ z; subst z; exact ⟨rfl, rfl⟩
  case q8 => rw [ho]; intro _ _ _ _ _ _ _ _ _ _ z; subst z; exact ⟨rfl, rfl⟩
  case q9 => rw [hx.1.2.1, hc]; intro _ _ _ _ _ _ _ _ _ _ _ z; subst z; exact ⟨rfl, rfl⟩
  case q10 => rw [hx.p5, hI.2.2.2.1.1.1]; intro _ _ _ _ _ _ _ _ _ _ _ _ z; subst z; exact ⟨rfl, rfl⟩
  case q11 =>
    intro z0 z1 z2 z3 z4 z5 z6 z7 z8 z9 z10 z11 z12
    unfold cnv
    rw [if_neg z0, if_neg z1, if_neg z2, if_neg z3, if_neg z4, if_neg z5, if_neg z6, if_neg z7, if_neg z8, if_neg z9, if_neg z10, if_neg z11, if_neg z12]
    exact ⟨rfl, rfl⟩
  all_goals first
    | exact hx.s2
    | exact hI.dk
    | exact hI.rk
    | (rw [hx.p5]; exact hx.p89.1)
    | (rw [hx.1.2.1]; exact hx.2.1.1)
theorem eX9_count {d o c : Nat} {what : Int} (hI : IV h D node n nw nd wi sn ns code cm s past u K) (ho : jI h 476 49 = (o : Int)) (hc : jI h 476 15 = (c : Int)) :
    Ex MX9_count (d + 4) [.inr 476, .inl what] h 0 0 (fun r g => r = some (.inl (cnv s n nw ns o c u what)) ∧ XF h g) := by
  have hM := hI.mk
  obtain ⟨m1, m2, m3, m4, m5, m6, m7, m8, m9⟩ := id hI.md
  refine Ex_of_V tX9_count (Nat.le_of_ble_eq_true rfl) ?_
  apply bX9_count_0
  case e1 =>
    intro n0 n1 n2 n3 n4 n5 n6 n7 n8
    refine Ex.mono (eX9_changes hM hI.es hI.si) ?_
    rintro r g ⟨rfl, rfl⟩
    apply bX9_count_122
    refine ⟨?_, XF.rf⟩
    subst n8
    rfl
  case e2 =>
    intro n0 n1 n2 n3 n4 n5 n6 n7 n8 n9
    refine Ex.mono (eX9_roomOfAll hM hI.es hI.si m2 hI.nw6) ?_
    rintro r g ⟨rfl, f⟩
    apply bX9_count_127
    refine ⟨?_, f.xf (fun a ha => by unfold sc; omega) (fun k hk => by unfold sf; omega)⟩
    subst n9
    rfl
  case q1 => rw [m1]; intro z; subst z; exact ⟨rfl, XF.rf⟩
  case q2 => rw [m2]; intro _ z; subst z; exact ⟨rfl, XF.rf⟩
  case q3 => rw [m4]; intro _ _ z; subst z; exact ⟨rfl, XF.rf⟩
  case q4 => rw [hM.p9, hI.es]; intro _ _ _ z; subst z; exact ⟨rfl, XF.rf⟩
  case q5 => rw [hM.p9, hI.es]; intro _ _ _ _ z; subst z; exact ⟨rfl, XF.rf⟩
  case q6 => rw [hM.p9, hI.es]; intro _ _ _ _ _ z; subst z; exact ⟨rfl, XF.rf⟩
  case q7 => rw [hM.p9, hI.es]; intro _ _ _ _ _ _ z; subst z; exact ⟨rfl, XF.rf⟩
  case q8 => rw [hM.p9, hI.es]; intro _ _ _ _ _ _ _ z; subst z; exact ⟨rfl, XF.rf⟩
  case q9 => rw [ho]; intro _ _ _ _ _ _ _ _ _ _ z; subst z; exact ⟨rfl, XF.rf⟩
  case q10 => rw [hc]; intro _ _ _ _ _ _ _ _ _ _ _ z; subst z; exact ⟨rfl, XF.rf⟩
  case q11 => rw [hI.2.2.2.1.2.2]; intro _ _ _ _ _ _ _ _ _ _ _ _ z; subst z; exact ⟨rfl, XF.rf⟩
  case q12 =>
    intro z0 z1 z2 z3 z4 z5 z6 z7 z8 z9 z10 z11 z12
    unfold cnv
    rw [if_neg z0, if_neg z1, if_neg z2, if_neg z3, if_neg z4, if_neg z5, if_neg z6, if_neg z7, if_neg z8, if_neg z9, if_neg z10, if_neg z11, if_neg z12]
    exact ⟨rfl, XF.rf⟩
  all_goals first
    | exact hM.x
    | (rw [hM.p9, hM.s482]; done)
    | (intros; rw [hM.p9, hM.s482]; decide)
theorem pair_count {d d' : Nat} {a : Int} (hI : IE h K) : Ex MX8_count (d + 6) [.inr 2, .inl a] h 0 0 (PR MX9_count (d' + 4) [.inr 476, .inl a] K) := by
  obtain ⟨D, node, n, nw, nd, wi, sn, ns, code, cm, s, past, u, hI⟩ := hI
  obtain ⟨c, c1, c2, c3, c4⟩ : IT h := hI.2.2.2.2.2.2.2
  obtain ⟨o, o1, o2, o3, o4⟩ : IO h := hI.2.2.2.2.2.2.1
  refine Ex.mono (eX8_count hI o1 c1) ?_
  rintro v g ⟨rfl, rfl⟩
  refine ⟨_, rfl, hI.mk.x, Ex.mono (eX9_count hI o2 c2) ?_⟩
  rintro v g2 ⟨rfl, xf⟩
  exact ⟨rfl, (hI.xf xf).ie⟩
end MB
