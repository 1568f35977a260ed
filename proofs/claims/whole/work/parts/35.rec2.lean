/-! ===== SignalWaves$Recording: its methods, over the row of numbers ===== -/
section KF
variable {h g : jH}
def up (s : Nat → Int) (k : Nat) (v : Int) : Nat → Int := fun j => if j = k then v else s j
/-- the oldest block is lost -/
def bsh (s : Nat → Int) : Nat → Int := fun k => if k = 3 then s 3 - 1 else if k = 4 then s 4 + 1 else if 11 ≤ k ∧ k < 176 then s (k + 33) else s k
/-- a block begins behind the last one -/
def bnw (s : Nat → Int) : Nat → Int := fun k => if k = 3 then s 3 + 1 else if k = 11 + 33 * (s 3).toNat then s 0 else if k = 11 + 33 * (s 3).toNat + 1 then -9 else if k = 11 + 33 * (s 3).toNat + 2 then 0
  else if 11 + 33 * (s 3).toNat + 3 ≤ k ∧ k < 11 + 33 * (s 3).toNat + 9 then s (5 + (k - (11 + 33 * (s 3).toNat + 3))) else s k
def bbg (s : Nat → Int) : Nat → Int := bnw (if s 3 = 6 then bsh s else s)
/-- where the last block lies -/
def lo (s : Nat → Int) : Nat := 11 + 33 * (s 3 - 1).toNat
/-- a change comes to the last block -/
def gch (s : Nat → Int) (w : Nat) (v : Int) : Nat → Int := fun k => if k = lo s + 9 + 3 * (s (lo s + 2)).toNat then s 0 else if k = lo s + 9 + 3 * (s (lo s + 2)).toNat + 1 then (w : Int) else if k = lo s + 9 + 3 * (s (lo s + 2)).toNat + 2 then v else if k = lo s + 2 then s (lo s + 2) + 1 else s k
def gv (s : Nat → Int) (w : Nat) (v : Int) : Nat → Int := if s 1 = 0 then up s (5 + w) v else gch (up (if s 2 ≤ s (lo s + 2) then bbg s else s) (5 + w) v) w v
def dmp (s : Nat → Int) (on : Int) : Nat → Int := if on = 0 then up (up s 1 0) (lo s + 1) (s 0) else bbg (up s 1 1)
def WN (node : Nat → Int) (n : Nat) : Prop := n ≤ 12 ∧ ∀ k, k < n → node (6 * k) = 0 → 0 ≤ node (6 * k + 5) ∧ node (6 * k + 5) < 6
theorem WN.lt {node : Nat → Int} {n k : Nat} (hN : WN node n) (hk : k < n) (hw : node (6 * k) = 0) : wr node k < 6 := by
  have := hN.2 k hk hw
  unfold wr
  omega
theorem BRep.cong {B : Nat} {s s' node : Nat → Int} {n o o' : Nat} (hN : WN node n) (hB : BRep h B s node n o) (h8 : s (o + 2) ≤ 8) (he : ∀ t, t < 33 → s' (o' + t) = s (o + t)) : BRep h B s' node n o' := by
  obtain ⟨r0, r1, r2, r3, r4⟩ := hB
  have e0 := he 0 (by omega)
  rw [Nat.add_zero, Nat.add_zero] at e0
  have e2 := he 2 (by omega)
  refine ⟨r0.trans e0.symm, r1.trans (he 1 (by omega)).symm, r2.trans e2.symm, fun k hk hw => (r3 k hk hw).trans ?_, fun j hj => ?_⟩
  · have := hN.lt hk hw
    rw [Nat.add_assoc, Nat.add_assoc, he _ (by omega)]
  · rw [e2] at hj
    obtain ⟨q1, q2, k, q3, q4, q5, q6⟩ := r4 j hj
    have a1 := he (9 + 3 * j) (by omega)
    have a2 := he (9 + 3 * j + 1) (by omega)
    have a3 := he (9 + 3 * j + 2) (by omega)
    simp only [← Nat.add_assoc] at a1 a2 a3
    exact ⟨q1.trans a1.symm, q2.trans a3.symm, k, q3, q4, q5, q6.trans a2.symm⟩
theorem eX6_copyFrom {d r q n : Nat} {s node : Nat → Int} {K : Int} (hr : SK h r) (hq : SK h q) (hd : r + 39 ≤ q ∨ q + 39 ≤ r) (br : RB h r) (bq : RB h q) (hs : SI s node n K) (hN : WN node n) (rep : RecRep h q s node n) :
    Ex MX6_copyFrom (d + 4) [.inr r, .inr q] h 0 0 (fun v g => v = none ∧ Fr r (r + 39) h g ∧ RB g r ∧ RecRep g r s node n) := by
  obtain ⟨a1, a2, a3, a4, a5, a6⟩ := id hr
  obtain ⟨c1, c2, c3, c4, c5, c6⟩ := id hq
  obtain ⟨i0, i1, i2, i3, i4, i5, i6, i7, i8, i9, i10⟩ := hs
  obtain ⟨p0, p1, p2, p3, p4, p5, p6⟩ := id rep
  refine Ex_of_V tX6_copyFrom (Nat.le_of_ble_eq_true rfl) ?_
  apply bX6_copyFrom_0
  case s1 => exact c1
  case s2 => exact a1
  case z1 => rw [p1]; exact i2
  case s3 => rw [c3, c5]
  case s4 => rw [a3, a5]
  case s5 => rw [c3, c5]; decide
  case s6 => rw [a3, a5]; decide
  rw [a3, c3]
  have fr0 : Fr r (r + 39) h (jcpy (jsI (jsI (jsI (jsI (jsI h r 0 (jI h q 0)) r 1 (jI h q 1)) r 2 (jI h q 2)) r 3 (jI h q 3)) r 4 (jI h q 4)) (q + 2) 0 (r + 2) 0 12) :=
    Fr.trans (Fr.trans (Fr.trans (Fr.trans (Fr.trans (Fr.sI (by omega) (by omega)) (Fr.sI (by omega) (by omega))) (Fr.sI (by omega) (by omega))) (Fr.sI (by omega) (by omega))) (Fr.sI (by omega) (by omega))) (Fr.cpy (by omega) (by omega))
  have v0 : jI (jcpy (jsI (jsI (jsI (jsI (jsI h r 0 (jI h q 0)) r 1 (jI h q 1)) r 2 (jI h q 2)) r 3 (jI h q 3)) r 4 (jI h q 4)) (q + 2) 0 (r + 2) 0 12) r 0 = s 0 := by simp [jI_cpy, jI_sI, p0]
  have v1 : jI (jcpy (jsI (jsI (jsI (jsI (jsI h r 0 (jI h q 0)) r 1 (jI h q 1)) r 2 (jI h q 2)) r 3 (jI h q 3)) r 4 (jI h q 4)) (q + 2) 0 (r + 2) 0 12) r 1 = s 1 := by simp [jI_cpy, jI_sI, p1]
  have v2 : jI (jcpy (jsI (jsI (jsI (jsI (jsI h r 0 (jI h q 0)) r 1 (jI h q 1)) r 2 (jI h q 2)) r 3 (jI h q 3)) r 4 (jI h q 4)) (q + 2) 0 (r + 2) 0 12) r 2 = s 2 := by simp [jI_cpy, jI_sI, p2]
  have v3 : jI (jcpy (jsI (jsI (jsI (jsI (jsI h r 0 (jI h q 0)) r 1 (jI h q 1)) r 2 (jI h q 2)) r 3 (jI h q 3)) r 4 (jI h q 4)) (q + 2) 0 (r + 2) 0 12) r 3 = s 4 := by simp [jI_cpy, jI_sI, p3]
  have v4 : jI (jcpy (jsI (jsI (jsI (jsI (jsI h r 0 (jI h q 0)) r 1 (jI h q 1)) r 2 (jI h q 2)) r 3 (jI h q 3)) r 4 (jI h q 4)) (q + 2) 0 (r + 2) 0 12) r 4 = s 3 := by simp [jI_cpy, jI_sI, p4]
  have v5 : ∀ k, k < n → node (6 * k) = 0 → jX (jcpy (jsI (jsI (jsI (jsI (jsI h r 0 (jI h q 0)) r 1 (jI h q 1)) r 2 (jI h q 2)) r 3 (jI h q 3)) r 4 (jI h q 4)) (q + 2) 0 (r + 2) 0 12) (r + 2) k = s (5 + wr node k) := fun k hk hw => by
    have := hN.1
    rw [jX_cpy, if_pos ⟨rfl, by omega, by omega⟩]
    show jX h (q + 2) (0 + (k - 0)) = _
    rw [Nat.zero_add, Nat.sub_zero]
    exact p5 k hk hw
  have vY : ∀ i, jY (jcpy (jsI (jsI (jsI (jsI (jsI h r 0 (jI h q 0)) r 1 (jI h q 1)) r 2 (jI h q 2)) r 3 (jI h q 3)) r 4 (jI h q 4)) (q + 2) 0 (r + 2) 0 12) (r + 1) i = jY h (r + 1) i := fun i => rfl
  generalize jcpy (jsI (jsI (jsI (jsI (jsI h r 0 (jI h q 0)) r 1 (jI h q 1)) r 2 (jI h q 2)) r 3 (jI h q 3)) r 4 (jI h q 4)) (q + 2) 0 (r + 2) 0 12 = g0 at fr0 v0 v1 v2 v3 v4 v5 vY
  have key : ∀ (k i : Nat) (g : jH), i + k = (s 3).toNat → Fr r (r + 39) h g → jI g r = jI g0 r → jX g (r + 2) = jX g0 (r + 2) → jY g (r + 1) = jY h (r + 1) → (∀ j, j < i → BRep g (jY h (r + 1) j) s node n (11 + 33 * j)) →
      V MX6_copyFrom (d + 4) 57 [some (.inr r), some (.inr q), some (.inl (i : Int))] [] g 0 0 (fun v g => v = none ∧ Fr r (r + 39) h g ∧ RB g r ∧ RecRep g r s node n) := by
    intro k
    induction k with
    | zero =>
      intro i g hi hF eI eX eY hb
      have hSK := hr.fr hF.1 hF.2.1
      have hSQ := hq.fr hF.1 hF.2.1
      apply bX6_copyFrom_57
      case q1 =>
        intro _
        refine ⟨rfl, hF, ?_, ?_⟩
        · unfold RB; rw [eY]; exact br
        · refine ⟨by rw [eI]; exact v0, by rw [eI]; exact v1, by rw [eI]; exact v2, by rw [eI]; exact v3, by rw [eI]; exact v4, fun k hk hw => by rw [eX]; exact v5 k hk hw, fun j hj => ?_⟩
          rw [eY]
          exact hb j (by omega)
      case s1 => exact hSK.1
      case s2 => rw [hSK.2.1, hSK.2.2.2.1]
      case s5 => exact hSQ.1
      case s6 => rw [hSQ.2.1, hSQ.2.2.2.1]
      all_goals (rw [eI, v4]; intro z; omega)
    | succ k ih =>
      intro i g hi hF eI eX eY hb
      have hSK := hr.fr hF.1 hF.2.1
      have hSQ := hq.fr hF.1 hF.2.1
      obtain ⟨j, hj, ej⟩ := br.1 i (by omega)
      obtain ⟨j2, hj2, ej2⟩ := bq.1 i (by omega)
      have eYq : jY g (q + 1) = jY h (q + 1) := (hF.2.2.2 (q + 1) (by omega)).2.2
      have hsb := i10 i (by omega)
      have hbq := p6 i (by omega)
      rw [ej2] at hbq
      have hbg := hbq.fr hF (by omega)
      have hm : jI g (q + 3 + 6 * j2 + 2) 0 = s (11 + 33 * i + 2) := hbg.2.2.1
      obtain ⟨m, hm2⟩ : ∃ m : Nat, s (11 + 33 * i + 2) = m := ⟨(s (11 + 33 * i + 2)).toNat, by have := hsb.2.2.2.1; omega⟩
      apply bX6_copyFrom_57
      case q1 => rw [eI, v4]; intro z; omega
      case s1 => exact hSK.1
      case s2 => rw [hSK.2.1, hSK.2.2.2.1]
      case s3 => intro _; omega
      case s4 => intro _; rw [hSK.2.1, hSK.2.2.2.1]; show (i : Int) < 6; omega
      case s5 => exact hSQ.1
      case s6 => rw [hSQ.2.1, hSQ.2.2.2.1]
      case s7 => intro _; rw [hSQ.2.1, hSQ.2.2.2.1]; show (i : Int) < 6; omega
      case s8 =>
        intro _
        rw [Int.toNat_natCast, hSK.2.1, eY, ej]
        exact (hSK.2.2.2.2.2 j hj).1
      case e1 =>
        intro _
        rw [Int.toNat_natCast, hSK.2.1, hSQ.2.1, eY, eYq, ej, ej2]
        refine Ex.mono (eX0_copyFrom (m := m) (hSK.2.2.2.2.2 j hj) (hSQ.2.2.2.2.2 j2 hj2) (by omega) (by rw [hm, hm2]) (by have := hsb.2.2.2.2.1; omega)) ?_
        rintro v g2 ⟨rfl, fr2, w0, w1, w2, w3, w4⟩
        have hF2 : Fr r (r + 39) h g2 := hF.trans (fr2.wide (by omega) (by omega))
        apply bX6_copyFrom_80
        case r1 => exact ⟨by omega, by omega⟩
        case k1 =>
          refine ih (i + 1) g2 (by omega) hF2 (((fr2.2.2.2 r (by omega)).1).trans eI) (((fr2.2.2.2 (r + 2) (by omega)).2.1).trans eX) (((fr2.2.2.2 (r + 1) (by omega)).2.2).trans eY) (fun t ht => ?_)
          by_cases hti : t = i
          · subst hti
            rw [ej]
            exact hbg.copied hN.1 (by rw [hm, hm2]) w0 w1 w2 w3 w4
          · have := hb t (by omega)
            obtain ⟨j3, hj3, ej3⟩ := br.1 t (by omega)
            rw [ej3] at this ⊢
            have hne : j3 ≠ j := fun z => hti (br.2 t i (by omega) (by omega) (by rw [ej3, ej, z]))
            exact this.fr fr2 (by omega)
  have h9 := key (s 3).toNat 0 g0 (by omega) fr0 rfl rfl (funext fun i => vY i) (fun j hj => absurd hj (by omega))
  exact h9
end KF
