/-! ===== SignalWaves$Past ===== -/
section KL
variable {h g : jH} {s s' node past : Nat → Int} {n : Nat} {K : Int}
theorem SB.row {i : Nat} (hB : SB s node n i) (h3 : s 3 ≤ 6) (hi : (i : Int) < s 3) (he : ∀ k, k < 209 → s' k = s k) : SB s' node n i := by
  refine hB.cong (he 0 (by omega)) (fun t ht => he _ (by omega)) (fun hx => Or.inl ?_)
  rw [he 3 (by omega)] at hx
  exact ⟨hx, he _ (by omega)⟩
theorem SI.row (hs : SI s node n K) (he : ∀ k, k < 209 → s' k = s k) : SI s' node n K := by
  obtain ⟨i0, i1, i2, i3, i4, i5, i6, i7, i8, i9, i10⟩ := hs
  refine ⟨by rw [he _ (by omega)]; exact i0, by rw [he _ (by omega)]; exact i1, by rw [he _ (by omega)]; exact i2, by rw [he _ (by omega)]; exact i3, by rw [he _ (by omega)]; exact i4, by rw [he _ (by omega)]; exact i5, by rw [he _ (by omega)]; exact i6, by rw [he _ (by omega)]; exact i7, by rw [he _ (by omega)]; exact i8, fun w hw => by rw [he _ (by omega)]; exact i9 w hw, fun i hi => ?_⟩
  rw [he _ (by omega)] at hi
  exact (i10 i hi).row i6 hi he
theorem RecRep.row {r : Nat} (hN : WN node n) (hs : SI s node n K) (rep : RecRep h r s node n) (he : ∀ k, k < 209 → s' k = s k) : RecRep h r s' node n := by
  obtain ⟨p0, p1, p2, p3, p4, p5, p6⟩ := rep
  obtain ⟨i0, i1, i2, i3, i4, i5, i6, i7, i8, i9, i10⟩ := hs
  refine ⟨by rw [he _ (by omega)]; exact p0, by rw [he _ (by omega)]; exact p1, by rw [he _ (by omega)]; exact p2, by rw [he _ (by omega)]; exact p3, by rw [he _ (by omega)]; exact p4, fun k hk hw => by have := hN.lt hk hw; rw [he _ (by omega)]; exact p5 k hk hw, fun i hi => ?_⟩
  rw [he _ (by omega)] at hi
  exact (p6 i hi).cong hN (i10 i hi).2.2.2.2.1 (fun t ht => he _ (by omega))
/-- the past's skeleton and order -/
def PO (h : jH) : Prop := (jS h 89).1 = 4 ∧ jP h 89 1 = 90 ∧ jS h 90 = (19, 6) ∧ (∀ i, i < 6 → ∃ j, j < 6 ∧ jY h 90 i = 91 + 39 * j) ∧ (∀ i j, i < 6 → j < 6 → jY h 90 i = jY h 90 j → i = j) ∧ ∀ j, j < 6 → SK h (91 + 39 * j) ∧ RB h (91 + 39 * j)
/-- what can be undone -/
def PRep (h : jH) (past : Nat → Int) (u : Nat) (node : Nat → Int) (n : Nat) (K : Int) : Prop :=
  jI h 89 0 = (u : Int) ∧ u ≤ 6 ∧ ∀ i, i < u → RecRep h (jY h 90 i) (fun k => past (209 * i + k)) node n ∧ SI (fun k => past (209 * i + k)) node n K
def psh (past : Nat → Int) : Nat → Int := fun k => if k < 1045 then past (k + 209) else past k
def pad (past : Nat → Int) (u : Nat) (s : Nat → Int) : Nat → Int := fun k => if 209 * u ≤ k ∧ k < 209 * u + 209 then s (k - 209 * u) else past k
def pnt (past : Nat → Int) (u : Nat) (s : Nat → Int) : Nat → Int := if u = 6 then pad (psh past) 5 s else pad past u s
theorem PRep.fr {u lo hi : Nat} (hR : PRep h past u node n K) (hO : PO h) (hF : Fr lo hi h g) (hd : 325 ≤ lo ∨ hi ≤ 89) : PRep g past u node n K := by
  obtain ⟨r0, r1, r2⟩ := hR
  obtain ⟨o1, o2, o3, o4, o5, o6⟩ := hO
  refine ⟨by rw [(hF.2.2.2 89 (by omega)).1]; exact r0, r1, fun i hi => ?_⟩
  obtain ⟨q1, q2⟩ := r2 i hi
  rw [(hF.2.2.2 90 (by omega)).2.2]
  obtain ⟨j, hj, ej⟩ := o4 i (by omega)
  rw [ej] at q1 ⊢
  exact ⟨q1.fr (o6 j hj).2 q2.2.2.2.2.2.2.1 hF (by omega), q2⟩
theorem PO.fr {lo hi : Nat} (hO : PO h) (hF : Fr lo hi h g) (hd : 325 ≤ lo ∨ hi ≤ 89) : PO g := by
  obtain ⟨o1, o2, o3, o4, o5, o6⟩ := hO
  have e := (hF.2.2.2 90 (by omega)).2.2
  refine ⟨by rw [hF.2.1]; exact o1, by rw [hF.1]; exact o2, by rw [hF.2.1]; exact o3, by rw [e]; exact o4, by rw [e]; exact o5, fun j hj => ⟨(o6 j hj).1.fr hF.1 hF.2.1, (o6 j hj).2.fr hF (by omega)⟩⟩
theorem PRep.grow {u : Nat} (hR : PRep h past u node n K) {K' : Int} (hK : K ≤ K') : PRep h past u node n K' := ⟨hR.1, hR.2.1, fun i hi => ⟨(hR.2.2 i hi).1, (hR.2.2 i hi).2.grow hK⟩⟩
/-- a recording is copied behind the last one of the past -/
theorem rem_core {d u : Nat} (hO : PO h) (hR : PRep h past u node n K) (hu : u ≤ 5) (hr : SK h 50) (br : RB h 50) (hN : WN node n) (hs : SI s node n K) (rep : RecRep h 50 s node n) {L : List (Option jA)} (hL : ∃ x y, L = [some (.inr 89), some (.inr 50), x, y]) :
    Ex MX6_copyFrom (d + 4) [.inr (jY h 90 u), .inr 50] h 0 0 (fun v h2 => V MX4_remember (d + 5) 74 L (v.toList ++ []) h2 0 0 (fun v g => v = none ∧ Fr 89 325 h g ∧ PO g ∧ PRep g (pad past u s) (u + 1) node n K)) := by
  obtain ⟨x, y, rfl⟩ := hL
  obtain ⟨o1, o2, o3, o4, o5, o6⟩ := id hO
  obtain ⟨r0, r1, r2⟩ := hR
  obtain ⟨j, hj, ej⟩ := o4 u (by omega)
  refine Ex.mono (eX6_copyFrom (by rw [ej]; exact (o6 j hj).1) hr (by rw [ej]; omega) (by rw [ej]; exact (o6 j hj).2) br hs hN rep) ?_
  rintro v g ⟨rfl, fr, br2, rep2⟩
  rw [ej] at fr br2 rep2
  apply bX4_remember_74
  case s1 => rw [fr.2.1]; exact o1
  case r1 => rw [(fr.2.2.2 89 (by omega)).1, r0]; exact ⟨by omega, by omega⟩
  case q1 =>
    have f89 := (fr.2.2.2 89 (by omega)).1
    have f90 := (fr.2.2.2 90 (by omega)).2.2
    refine ⟨rfl, (fr.wide (by omega) (by omega)).trans (Fr.sI (by omega) (by omega)), ?_, ?_, by omega, fun i hi => ?_⟩
    · refine ⟨by rw [jS_sI, fr.2.1]; exact o1, by rw [jP_sI, fr.1]; exact o2, by rw [jS_sI, fr.2.1]; exact o3, by rw [jY_sI, f90]; exact o4, by rw [jY_sI, f90]; exact o5, fun j2 hj2 => ⟨(o6 j2 hj2).1.fr fr.1 fr.2.1, ?_⟩⟩
      by_cases q : j2 = j
      · subst q; exact br2
      · show RB g (91 + 39 * j2)
        exact (o6 j2 hj2).2.fr fr (by omega)
    · rw [jI_sI, if_pos ⟨rfl, rfl⟩, f89, r0]; omega
    · rw [jY_sI, f90]
      have hpad : ∀ k, k < 209 → pad past u s (209 * i + k) = if i = u then s k else past (209 * i + k) := fun k hk => by
        unfold pad
        by_cases q : i = u
        · subst q; rw [if_pos (by omega), if_pos rfl]; congr 1; omega
        · rw [if_neg (by omega), if_neg q]
      by_cases q : i = u
      · subst q
        rw [ej]
        have he : ∀ k, k < 209 → (fun k => pad past i s (209 * i + k)) k = s k := fun k hk => by show pad past i s (209 * i + k) = _; rw [hpad k hk, if_pos rfl]
        refine ⟨?_, hs.row he⟩
        exact (rep2.row hN hs he).fr br2 (by show pad past i s (209 * i + 3) ≤ 6; rw [hpad 3 (by omega), if_pos rfl]; exact hs.2.2.2.2.2.2.1) (Fr.sI (h := g) (lo := 89) (hi := 90) (by omega) (by omega)) (by omega)
      · obtain ⟨q1, q2⟩ := r2 i (by omega)
        obtain ⟨j2, hj2, ej2⟩ := o4 i (by omega)
        have hne : j2 ≠ j := fun z => q (o5 i u (by omega) (by omega) (by rw [ej2, ej, z]))
        have he : ∀ k, k < 209 → (fun k => pad past u s (209 * i + k)) k = (fun k => past (209 * i + k)) k := fun k hk => by show pad past u s (209 * i + k) = _; rw [hpad k hk, if_neg q]
        rw [ej2] at q1 ⊢
        refine ⟨?_, q2.row he⟩
        have q3 := q1.fr (o6 j2 hj2).2 q2.2.2.2.2.2.2.1 fr (by omega)
        have q4 := q3.fr ((o6 j2 hj2).2.fr fr (by omega)) q2.2.2.2.2.2.2.1 (Fr.sI (h := g) (lo := 89) (hi := 90) (a := 89) (k := 0) (v := jI g 89 0 + 1) (by omega) (by omega)) (by omega)
        exact q4.row hN q2 he
theorem eX4_remember {d u : Nat} (hO : PO h) (hR : PRep h past u node n K) (hr : SK h 50) (br : RB h 50) (hN : WN node n) (hs : SI s node n K) (rep : RecRep h 50 s node n) :
    Ex MX4_remember (d + 5) [.inr 89, .inr 50] h 0 0 (fun v g => v = none ∧ Fr 89 325 h g ∧ PO g ∧ PRep g (pnt past u s) (if u = 6 then 6 else u + 1) node n K) := by
  obtain ⟨o1, o2, o3, o4, o5, o6⟩ := id hO
  obtain ⟨r0, r1, r2⟩ := id hR
  refine Ex_of_V tX4_remember (Nat.le_of_ble_eq_true rfl) ?_
  unfold pnt
  by_cases hu : u = 6
  · subst hu
    rw [if_pos rfl, if_pos rfl]
    apply bX4_remember_0
    case e1 => rw [r0]; intro q; exact absurd rfl q
    case k1 =>
      intro _
      rw [o2]
      have key : ∀ k m : Nat, m + k = 5 → V MX4_remember (d + 5) 18 [some (.inr 89), some (.inr 50), some (.inr (jY h 90 0)), some (.inl ((m + 1 : Nat) : Int))] [] (jrot h 90 m) 0 0 (fun v g => v = none ∧ Fr 89 325 h g ∧ PO g ∧ PRep g (pad (psh past) 5 s) 6 node n K) := by
        intro k
        have b0 : (jS h (jY h 90 0)).1 = 6 := by
          obtain ⟨j, hj, ej⟩ := o4 0 (by omega)
          rw [ej]; exact (o6 j hj).1.1
        have pp : ∀ m, jP (jrot h 90 m) 89 1 = 90 := fun _ => o2
        have ss : ∀ m, jS (jrot h 90 m) = jS h := fun _ => rfl
        induction k with
        | zero =>
          intro m hm
          obtain rfl : m = 5 := by omega
          have hcnt : jI (jrot h 90 5) 89 0 = 6 := r0
          -- the heap behind the turn of the rows
          have hfr : Fr 89 325 h (jsI (jsY (jrot h 90 5) 90 5 (jY h 90 0)) 89 0 5) := Fr.trans (Fr.trans (Fr.rot (by omega) (by omega)) (Fr.sY (by omega) (by omega))) (Fr.sI (by omega) (by omega))
          have hY : ∀ i, i < 6 → jY (jsI (jsY (jrot h 90 5) 90 5 (jY h 90 0)) 89 0 5) 90 i = if i = 5 then jY h 90 0 else jY h 90 (i + 1) := by
            intro i hi
            rw [jY_sI, jY_sY]
            by_cases q : i = 5
            · rw [if_pos ⟨rfl, q⟩, if_pos q]
            · rw [if_neg (by omega), if_neg q, jY_rot, if_pos ⟨rfl, by omega⟩]
          have hO2 : PO (jsI (jsY (jrot h 90 5) 90 5 (jY h 90 0)) 89 0 5) := by
            refine ⟨o1, o2, o3, fun i hi => ?_, fun i j hi hj e => ?_, fun j hj => ⟨(o6 j hj).1.fr rfl rfl, ?_⟩⟩
            · rw [hY i hi]
              split
              · exact o4 0 (by omega)
              · exact o4 (i + 1) (by omega)
            · rw [hY i hi, hY j hj] at e
              by_cases q1 : i = 5 <;> by_cases q2 : j = 5
              · omega
              · rw [if_pos q1, if_neg q2] at e
                have := o5 _ _ (by omega) (by omega) e; omega
              · rw [if_neg q1, if_pos q2] at e
                have := o5 _ _ (by omega) (by omega) e; omega
              · rw [if_neg q1, if_neg q2] at e
                have := o5 _ _ (by omega) (by omega) e; omega
            · have hf2 : Fr 89 91 h (jsI (jsY (jrot h 90 5) 90 5 (jY h 90 0)) 89 0 5) := Fr.trans (Fr.trans (Fr.rot (by omega) (by omega)) (Fr.sY (by omega) (by omega))) (Fr.sI (by omega) (by omega))
              exact (o6 j hj).2.fr hf2 (by omega)
          have hR2 : PRep (jsI (jsY (jrot h 90 5) 90 5 (jY h 90 0)) 89 0 5) (psh past) 5 node n K := by
            refine ⟨by rw [jI_sI, if_pos ⟨rfl, rfl⟩]; rfl, by omega, fun i hi => ?_⟩
            rw [hY i (by omega), if_neg (by omega)]
            obtain ⟨q1, q2⟩ := r2 (i + 1) (by omega)
            obtain ⟨j2, hj2, ej2⟩ := o4 (i + 1) (by omega)
            have he : ∀ k, k < 209 → (fun k => psh past (209 * i + k)) k = (fun k => past (209 * (i + 1) + k)) k := fun k hk => by
              show psh past (209 * i + k) = past (209 * (i + 1) + k)
              unfold psh
              rw [if_pos (by omega)]
              congr 1
              omega
            have hf2 : Fr 89 91 h (jsI (jsY (jrot h 90 5) 90 5 (jY h 90 0)) 89 0 5) := Fr.trans (Fr.trans (Fr.rot (by omega) (by omega)) (Fr.sY (by omega) (by omega))) (Fr.sI (by omega) (by omega))
            rw [ej2] at q1 ⊢
            exact ⟨(q1.fr (o6 j2 hj2).2 q2.2.2.2.2.2.2.1 hf2 (by omega)).row hN q2 he, q2.row he⟩
          have hr2 : SK (jsI (jsY (jrot h 90 5) 90 5 (jY h 90 0)) 89 0 5) 50 := hr.fr rfl rfl
          have br2 : RB (jsI (jsY (jrot h 90 5) 90 5 (jY h 90 0)) 89 0 5) 50 := br.fr hfr (by omega)
          have rep2 : RecRep (jsI (jsY (jrot h 90 5) 90 5 (jY h 90 0)) 89 0 5) 50 s node n := rep.fr br hs.2.2.2.2.2.2.1 hfr (by omega)
          apply bX4_remember_18
          case e1 =>
            intro _
            rw [pp, hcnt]
            have hcore := rem_core (d := d) hO2 hR2 (by omega) hr2 br2 hN hs rep2 (L := [some (.inr 89), some (.inr 50), some (.inr (jY h 90 0)), some (.inl ((5 + 1 : Nat) : Int))]) ⟨_, _, rfl⟩
            refine Ex.mono hcore ?_
            intro v g hv
            refine V_mono hv ?_
            rintro v g ⟨rfl, c1, c2, c3⟩
            exact ⟨rfl, hfr.trans c1, c2, c3⟩
          case r1 => intro _; rw [hcnt]; exact ⟨by decide, by decide⟩
          case k1 => intro q; omega
          all_goals (try simp only [pp, ss, o2, o3])
          all_goals (intros; first | omega | exact o1 | exact b0 | exact (o6 0 (by omega)).1.1 | rfl | assumption | (rw [hcnt]; decide) | (rw [hcnt]; obtain ⟨j, hj, ej⟩ := hO2.2.2.2.1 5 (by omega); exact (show (jS h (jY (jsI (jsY (jrot h 90 5) 90 5 (jY h 90 0)) 89 0 5) 90 5)).1 = 6 by rw [ej]; exact (o6 j hj).1.1)))
        | succ k ih =>
          intro m hm
          obtain ⟨j, hj, ej⟩ := o4 (m + 1) (by omega)
          have b1 : (jS h (jY (jrot h 90 m) 90 (((m + 1 : Nat) : Int)).toNat)).1 = 6 := by
            rw [Int.toNat_natCast, jY_rot, if_neg (by omega), ej]; exact (o6 j hj).1.1
          apply bX4_remember_18
          case k1 =>
            intro _
            rw [pp, show ((((m + 1 : Nat) : Int)) - 1).toNat = m by omega, Int.toNat_natCast, jrot_s]
            exact ih (m + 1) (by omega)
          case r1 => intro q; omega
          case r2 => intro _; exact ⟨by omega, by omega⟩
          case r3 => intro _; exact ⟨by omega, by omega⟩
          case e1 => intro q; omega
          all_goals (try simp only [pp, ss, o2, o3])
          all_goals (intros; first | omega | exact o1 | exact b0 | exact b1 | rfl | assumption)
      have h9 := key 5 0 (by omega)
      rw [jrot_0] at h9
      exact h9
    all_goals (first | exact o1 | (rw [o2, o3]; done) | (intros; rw [o2, o3]; decide) | (rw [o2, o3]; decide) | (rw [r0]; intro q; exact absurd rfl q))
  · rw [if_neg hu, if_neg hu]
    apply bX4_remember_0
    case e1 =>
      intro _
      rw [r0, o2, Int.toNat_natCast]
      exact rem_core (d := d) hO hR (by omega) hr br hN hs rep ⟨_, _, rfl⟩
    case k1 => rw [r0]; intro q; omega
    all_goals (first | exact o1 | (rw [o2, o3]; done) | (intros; rw [o2, o3, r0]; show (u : Int) < 6; omega) | (intros; rw [r0]; omega) | (intros; rw [r0] at *; omega) | (intros; rw [r0, o2, Int.toNat_natCast]; obtain ⟨j, hj, ej⟩ := o4 u (by omega); rw [ej]; exact (o6 j hj).1.1))
/-- Past.bringBack: the last one comes back -/
theorem eX4_bringBack {d u : Nat} (hO : PO h) (hR : PRep h past (u + 1) node n K) (hr : SK h 50) (br : RB h 50) (hN : WN node n) :
    Ex MX4_bringBack (d + 5) [.inr 89, .inr 50] h 0 0 (fun v g => v = none ∧ jI g 89 0 = (u : Int) ∧ jP g = jP h ∧ jS g = jS h ∧ jN g = jN h ∧ (∀ a, (a < 50 ∨ 89 ≤ a) → (jX g a = jX h a ∧ jY g a = jY h a ∧ (a ≠ 89 → jI g a = jI h a))) ∧ PO g ∧ PRep g past u node n K ∧ RB g 50 ∧ RecRep g 50 (fun k => past (209 * u + k)) node n) := by
  obtain ⟨o1, o2, o3, o4, o5, o6⟩ := id hO
  obtain ⟨r0, r1, r2⟩ := id hR
  obtain ⟨q1, q2⟩ := r2 u (by omega)
  obtain ⟨j, hj, ej⟩ := o4 u (by omega)
  have hf1 : Fr 89 90 h (jsI h 89 0 (u : Int)) := Fr.sI (by omega) (by omega)
  have c0 : jI h 89 0 - 1 = (u : Int) := by rw [r0]; omega
  refine Ex_of_V tX4_bringBack (Nat.le_of_ble_eq_true rfl) ?_
  apply bX4_bringBack_0
  case q1 => rw [r0]; intro q; omega
  case r1 => intro _; rw [r0]; exact ⟨by omega, by omega⟩
  case e1 =>
    intro _
    rw [c0, o2, Int.toNat_natCast, ej]
    refine Ex.mono (eX6_copyFrom (h := jsI h 89 0 (u : Int)) (s := fun k => past (209 * u + k)) (hr.fr rfl rfl) ((o6 j hj).1.fr rfl rfl) (by omega) br (o6 j hj).2 q2 hN ?_) ?_
    · rw [ej] at q1
      exact q1.fr (o6 j hj).2 q2.2.2.2.2.2.2.1 hf1 (by omega)
    · rintro v g ⟨rfl, fr, br2, rep2⟩
      apply bX4_bringBack_30
      have f89 := (fr.2.2.2 89 (by omega)).1
      have f90 := (fr.2.2.2 90 (by omega)).2.2
      refine ⟨rfl, by rw [f89, jI_sI, if_pos ⟨rfl, rfl⟩], fr.1, fr.2.1, fr.2.2.1, fun a ha => ⟨(fr.2.2.2 a ha).2.1, (fr.2.2.2 a ha).2.2, fun hne => (fr.2.2.2 a ha).1.trans (hf1.2.2.2 a (by omega)).1⟩, ?_, ?_, br2, rep2⟩
      · exact PO.fr (h := jsI h 89 0 (u : Int)) hO fr (by omega)
      · refine ⟨by rw [f89, jI_sI, if_pos ⟨rfl, rfl⟩], by omega, fun i hi => ?_⟩
        obtain ⟨t1, t2⟩ := r2 i (by omega)
        obtain ⟨j2, hj2, ej2⟩ := o4 i (by omega)
        rw [f90, jY_sI]
        rw [ej2] at t1 ⊢
        exact ⟨(t1.fr (o6 j2 hj2).2 t2.2.2.2.2.2.2.1 hf1 (by omega)).fr ((o6 j2 hj2).2) t2.2.2.2.2.2.2.1 fr (by omega), t2⟩
  all_goals (first | exact o1 | (rw [o2, o3]; done) | (intros; rw [c0]; omega) | (intros; rw [c0, o2, o3]; show (u : Int) < 6; omega) | (intros; rw [c0, o2, Int.toNat_natCast, ej]; exact (o6 j hj).1.1) | (intros; exact hr.1) | (exact hr.1))
end KL
