/-! ===== SignalWaves$Recording: what it stands for ===== -/
section KE
variable {h g : jH}
/-- the number of the wire that node k is -/
def wr (node : Nat → Int) (k : Nat) : Nat := (node (6 * k + 5)).toNat
/-- block B stands for the block at o of the row s of numbers -/
def BRep (h : jH) (B : Nat) (s node : Nat → Int) (n o : Nat) : Prop :=
  jI h B 0 = s o ∧ jI h B 1 = s (o + 1) ∧ jI h (B + 2) 0 = s (o + 2) ∧ (∀ k, k < n → node (6 * k) = 0 → jX h (B + 1) k = s (o + 3 + wr node k)) ∧
  ∀ j : Nat, (j : Int) < s (o + 2) → jX h (B + 3) j = s (o + 9 + 3 * j) ∧ jX h (B + 5) j = s (o + 9 + 3 * j + 2) ∧ ∃ k : Nat, k < n ∧ node (6 * k) = 0 ∧ jX h (B + 4) j = (k : Int) ∧ node (6 * k + 5) = s (o + 9 + 3 * j + 1)
/-- the order of a recording's blocks: each of its six, once -/
def RB (h : jH) (r : Nat) : Prop := (∀ i, i < 6 → ∃ j, j < 6 ∧ jY h (r + 1) i = r + 3 + 6 * j) ∧ ∀ i j, i < 6 → j < 6 → jY h (r + 1) i = jY h (r + 1) j → i = j
/-- the skeleton of a recording -/
def SK (h : jH) (r : Nat) : Prop := (jS h r).1 = 6 ∧ jP h r 5 = r + 1 ∧ jP h r 6 = r + 2 ∧ jS h (r + 1) = (18, 6) ∧ jS h (r + 2) = (16, 12) ∧ ∀ j, j < 6 → BK h (r + 3 + 6 * j)
/-- the recording stands for the row s of numbers -/
def RecRep (h : jH) (r : Nat) (s node : Nat → Int) (n : Nat) : Prop :=
  jI h r 0 = s 0 ∧ jI h r 1 = s 1 ∧ jI h r 2 = s 2 ∧ jI h r 3 = s 4 ∧ jI h r 4 = s 3 ∧ (∀ k, k < n → node (6 * k) = 0 → jX h (r + 2) k = s (5 + wr node k)) ∧
  ∀ i : Nat, (i : Int) < s 3 → BRep h (jY h (r + 1) i) s node n (11 + 33 * i)
/-- a block of the row: in its bounds, in the order of time -/
def SB (s node : Nat → Int) (n i : Nat) : Prop :=
  0 ≤ s (11 + 33 * i) ∧ s (11 + 33 * i) ≤ s 0 ∧ (s (11 + 33 * i + 1) = -9 ∨ (s (11 + 33 * i) ≤ s (11 + 33 * i + 1) ∧ s (11 + 33 * i + 1) ≤ s 0)) ∧ 0 ≤ s (11 + 33 * i + 2) ∧ s (11 + 33 * i + 2) ≤ 8 ∧
  (∀ w, w < 6 → 0 ≤ s (11 + 33 * i + 3 + w) ∧ s (11 + 33 * i + 3 + w) ≤ 255) ∧
  (∀ j : Nat, (j : Int) < s (11 + 33 * i + 2) → s (11 + 33 * i) ≤ s (11 + 33 * i + 9 + 3 * j) ∧ s (11 + 33 * i + 9 + 3 * j) ≤ s 0 ∧ 0 ≤ s (11 + 33 * i + 9 + 3 * j + 2) ∧ s (11 + 33 * i + 9 + 3 * j + 2) ≤ 255 ∧
    (((j + 1 : Nat) : Int) < s (11 + 33 * i + 2) → s (11 + 33 * i + 9 + 3 * j) ≤ s (11 + 33 * i + 9 + 3 * (j + 1))) ∧ (((i + 1 : Nat) : Int) < s 3 → s (11 + 33 * i + 9 + 3 * j) ≤ s (11 + 33 * (i + 1))) ∧
    ∃ k : Nat, k < n ∧ node (6 * k) = 0 ∧ node (6 * k + 5) = s (11 + 33 * i + 9 + 3 * j + 1)) ∧
  (((i + 1 : Nat) : Int) < s 3 → s (11 + 33 * i) ≤ s (11 + 33 * (i + 1)))
/-- the row of numbers in its bounds -/
def SI (s node : Nat → Int) (n : Nat) (K : Int) : Prop :=
  0 ≤ s 0 ∧ s 0 ≤ 999 ∧ (s 1 = 0 ∨ s 1 = 1) ∧ 1 ≤ s 2 ∧ s 2 ≤ 8 ∧ 1 ≤ s 3 ∧ s 3 ≤ 6 ∧ 0 ≤ s 4 ∧ s 4 ≤ K ∧ (∀ w, w < 6 → 0 ≤ s (5 + w) ∧ s (5 + w) ≤ 255) ∧ ∀ i : Nat, (i : Int) < s 3 → SB s node n i
theorem SK.fr {r : Nat} (h1 : SK h r) (hP : jP g = jP h) (hS : jS g = jS h) : SK g r := by
  unfold SK BK at *
  rw [hP, hS]
  exact h1
theorem BK.fr {B : Nat} (h1 : BK h B) (hP : jP g = jP h) (hS : jS g = jS h) : BK g B := by
  unfold BK at *
  rw [hP, hS]
  exact h1
theorem BRep.eq {B : Nat} {s node : Nat → Int} {n o : Nat} (hB : BRep h B s node n o) (h0 : jI g B = jI h B) (h2 : jI g (B + 2) = jI h (B + 2)) (x1 : jX g (B + 1) = jX h (B + 1)) (x3 : jX g (B + 3) = jX h (B + 3)) (x4 : jX g (B + 4) = jX h (B + 4)) (x5 : jX g (B + 5) = jX h (B + 5)) : BRep g B s node n o := by
  unfold BRep at *
  rw [h0, h2, x1, x3, x4, x5]
  exact hB
theorem BRep.fr {B lo hi : Nat} {s node : Nat → Int} {n o : Nat} (hB : BRep h B s node n o) (hF : Fr lo hi h g) (hd : B + 6 ≤ lo ∨ hi ≤ B) : BRep g B s node n o := by
  obtain ⟨-, -, -, hF⟩ := hF
  exact hB.eq (hF B (by omega)).1 (hF (B + 2) (by omega)).1 (hF (B + 1) (by omega)).2.1 (hF (B + 3) (by omega)).2.1 (hF (B + 4) (by omega)).2.1 (hF (B + 5) (by omega)).2.1
theorem RB.fr {r lo hi : Nat} (hB : RB h r) (hF : Fr lo hi h g) (hd : r + 2 ≤ lo ∨ hi ≤ r + 1) : RB g r := by
  have e := (hF.2.2.2 (r + 1) (by omega)).2.2
  unfold RB at *
  rw [e]
  exact hB
theorem RB.at {r i : Nat} (hB : RB h r) (hi : i < 6) : ∃ j, j < 6 ∧ jY h (r + 1) i = r + 3 + 6 * j := hB.1 i hi
/-- outside the recording's stretch: it stands as it stood -/
theorem RecRep.fr {r lo hi : Nat} {s node : Nat → Int} {n : Nat} (hR : RecRep h r s node n) (hB : RB h r) (h6 : s 3 ≤ 6) (hF : Fr lo hi h g) (hd : r + 39 ≤ lo ∨ hi ≤ r) : RecRep g r s node n := by
  obtain ⟨e0, e1, e2, e3, e4, e5, e6⟩ := hR
  have f0 := (hF.2.2.2 r (by omega)).1
  have f2 := (hF.2.2.2 (r + 2) (by omega)).2.1
  have fy := (hF.2.2.2 (r + 1) (by omega)).2.2
  refine ⟨by rw [f0]; exact e0, by rw [f0]; exact e1, by rw [f0]; exact e2, by rw [f0]; exact e3, by rw [f0]; exact e4, fun k hk hn => by rw [f2]; exact e5 k hk hn, fun i hi => ?_⟩
  rw [fy]
  obtain ⟨j, hj, ej⟩ := hB.1 i (by omega)
  have := e6 i hi
  rw [ej] at this ⊢
  exact this.fr hF (by omega)
theorem chapp_fr {c o m lo hi : Nat} (hc : lo ≤ c ∧ c < hi) (h1 : lo ≤ jP h c 1 ∧ jP h c 1 < hi) (h2 : lo ≤ jP h c 2 ∧ jP h c 2 < hi) (h3 : lo ≤ jP h c 3 ∧ jP h c 3 < hi) : Fr lo hi h (chapp h c o m) :=
  Fr.trans (Fr.trans (Fr.trans (Fr.fil h1.1 h1.2) (Fr.fil h2.1 h2.2)) (Fr.fil h3.1 h3.2)) (Fr.sI hc.1 hc.2)
/-- Block.copyFrom -/
theorem eX0_copyFrom {d B C m : Nat} (hB : BK h B) (hC : BK h C) (hne : B + 5 < C ∨ C + 5 < B) (hm : jI h (C + 2) 0 = m) (h8 : m ≤ 8) :
    Ex MX0_copyFrom (d + 3) [.inr B, .inr C] h 0 0 (fun r g => r = none ∧ Fr B (B + 6) h g ∧ jI g B 0 = jI h C 0 ∧ jI g B 1 = jI h C 1 ∧ jI g (B + 2) 0 = m ∧ (∀ k, k < 12 → jX g (B + 1) k = jX h (C + 1) k) ∧ ∀ j, j < m → jX g (B + 3) j = jX h (C + 3) j ∧ jX g (B + 4) j = jX h (C + 4) j ∧ jX g (B + 5) j = jX h (C + 5) j) := by
  obtain ⟨b1, b2, b3, b4, b5, b6, b7, b8, b9, b10, b11⟩ := id hB
  obtain ⟨c1, c2, c3, c4, c5, c6, c7, c8, c9, c10, c11⟩ := id hC
  refine Ex_of_V tX0_copyFrom (Nat.le_of_ble_eq_true rfl) ?_
  apply bX0_copyFrom_0
  case s1 => exact c1
  case s2 => exact b1
  refine Ex.mono (eX0_restart hB (by rw [c2]; exact c4)) ?_
  rintro v g ⟨rfl, rfl⟩
  have fr1 : Fr B (B + 6) h (blrs h B (jI h C 0) (jP h C 2)) := Fr.trans (Fr.trans (Fr.trans (Fr.sI (by omega) (by omega)) (Fr.sI (by omega) (by omega))) (Fr.cpy (by omega) (by omega))) (Fr.sI (by omega) (by omega))
  have e1 : jI (blrs h B (jI h C 0) (jP h C 2)) B 0 = jI h C 0 := by
    unfold blrs
    rw [jI_sI, if_neg (by omega), jI_cpy, jI_sI, if_neg (by omega), jI_sI, if_pos ⟨rfl, rfl⟩]
  have e2 : ∀ k, k < 12 → jX (blrs h B (jI h C 0) (jP h C 2)) (B + 1) k = jX h (C + 1) k := fun k hk => by
    unfold blrs
    rw [jX_sI, jX_cpy, if_pos ⟨rfl, by omega, by omega⟩, c2]
    show jX h (C + 1) (0 + (k - 0)) = _
    rw [Nat.zero_add, Nat.sub_zero]
  generalize blrs h B (jI h C 0) (jP h C 2) = g1 at fr1 e1 e2
  have o0 := fr1.2.2.2 C (by omega)
  have o2 := fr1.2.2.2 (C + 2) (by omega)
  have o3 := fr1.2.2.2 (C + 3) (by omega)
  have o4 := fr1.2.2.2 (C + 4) (by omega)
  have o5 := fr1.2.2.2 (C + 5) (by omega)
  have hB1 := hB.fr fr1.1 fr1.2.1
  have hC1 := hC.fr fr1.1 fr1.2.1
  apply bX0_copyFrom_12
  case s1 => exact hC1.1
  case s2 => exact hB1.1
  case s3 => rw [hB1.2.2.1]; exact hB1.2.2.2.2.1
  rw [show jP g1 B 3 = B + 2 from hB1.2.2.1, show jP g1 C 3 = C + 2 from hC1.2.2.1, o0.1]
  have hg2 : Fr B (B + 6) h (jsI g1 B 1 (jI h C 1)) := fr1.trans (Fr.sI (by omega) (by omega))
  refine Ex.mono (eX1_copyFrom (h := jsI g1 B 1 (jI h C 1)) (cap := 8) (capo := 8) (m := m) (hB.fr hg2.1 hg2.2.1).ch (hC.fr hg2.1 hg2.2.1).ch ((hB.fr hg2.1 hg2.2.1).chap (hC.fr hg2.1 hg2.2.1) hne) (hB.fr hg2.1 hg2.2.1).chin (by omega) (by rw [jI_sI, if_neg (by omega), o2.1]; exact hm) h8 h8 (by omega) (by omega)) ?_
  rintro v g ⟨rfl, rfl⟩
  have hP : ∀ i, 1 ≤ i → i ≤ 3 → jP (jsI (jsI g1 B 1 (jI h C 1)) (B + 2) 0 0) (B + 2) i = B + 2 + i := by
    intro i i1 i3
    show jP g1 (B + 2) i = _
    obtain ⟨-, -, -, -, -, q6, q7, q8, -⟩ := hB1
    rcases (show i = 1 ∨ i = 2 ∨ i = 3 by omega) with rfl | rfl | rfl <;> omega
  have hQ : ∀ i, 1 ≤ i → i ≤ 3 → jP (jsI (jsI g1 B 1 (jI h C 1)) (B + 2) 0 0) (C + 2) i = C + 2 + i := by
    intro i i1 i3
    show jP g1 (C + 2) i = _
    obtain ⟨-, -, -, -, -, q6, q7, q8, -⟩ := hC1
    rcases (show i = 1 ∨ i = 2 ∨ i = 3 by omega) with rfl | rfl | rfl <;> omega
  have frc : Fr B (B + 6) (jsI (jsI g1 B 1 (jI h C 1)) (B + 2) 0 0) (chapp (jsI (jsI g1 B 1 (jI h C 1)) (B + 2) 0 0) (B + 2) (C + 2) m) := chapp_fr (by omega) (by rw [hP 1 (by omega) (by omega)]; omega) (by rw [hP 2 (by omega) (by omega)]; omega) (by rw [hP 3 (by omega) (by omega)]; omega)
  have hn0 : jI (jsI (jsI g1 B 1 (jI h C 1)) (B + 2) 0 0) (B + 2) 0 = 0 := by rw [jI_sI, if_pos ⟨rfl, rfl⟩]
  apply bX0_copyFrom_31
  refine ⟨rfl, (hg2.trans (Fr.sI (by omega) (by omega))).trans frc, ?_, ?_, ?_, ?_, ?_⟩
  · unfold chapp
    rw [jI_sI, if_neg (by omega), jI_fil, jI_fil, jI_fil, jI_sI, if_neg (by omega), jI_sI, if_neg (by omega)]
    exact e1
  · unfold chapp
    rw [jI_sI, if_neg (by omega), jI_fil, jI_fil, jI_fil, jI_sI, if_neg (by omega), jI_sI, if_pos ⟨rfl, rfl⟩]
  · rw [chapp_n, hn0]; simp
  · intro k hk
    unfold chapp
    rw [hP 1 (by omega) (by omega), hP 2 (by omega) (by omega), hP 3 (by omega) (by omega), jX_sI, jX_fil, if_neg (by omega), jX_fil, if_neg (by omega), jX_fil, if_neg (by omega)]
    exact e2 k hk
  · intro j hj
    unfold chapp
    rw [hP 1 (by omega) (by omega), hP 2 (by omega) (by omega), hP 3 (by omega) (by omega), hQ 1 (by omega) (by omega), hQ 2 (by omega) (by omega), hQ 3 (by omega) (by omega), hn0]
    refine ⟨?_, ?_, ?_⟩
    · rw [jX_sI, jX_fil, if_neg (by omega), jX_fil, if_neg (by omega), jX_fil, if_pos ⟨by omega, by simp, by simpa using hj⟩]
      show jX g1 (C + 2 + 1) (j - 0) = _
      rw [Nat.sub_zero, show C + 2 + 1 = C + 3 by omega, o3.2.1]
    · rw [jX_sI, jX_fil, if_neg (by omega), jX_fil, if_pos ⟨by omega, by simp, by simpa using hj⟩]
      show jX g1 (C + 2 + 2) (j - 0) = _
      rw [Nat.sub_zero, show C + 2 + 2 = C + 4 by omega, o4.2.1]
    · rw [jX_sI, jX_fil, if_pos ⟨by omega, by simp, by simpa using hj⟩]
      show jX g1 (C + 2 + 3) (j - 0) = _
      rw [Nat.sub_zero, show C + 2 + 3 = C + 5 by omega, o5.2.1]
/-- a block copied stands for what the other one stands for -/
theorem BRep.copied {B C m : Nat} {s node : Nat → Int} {n o : Nat} (hn : n ≤ 12) (hR : BRep h C s node n o) (hm : jI h (C + 2) 0 = m)
    (e0 : jI g B 0 = jI h C 0) (e1 : jI g B 1 = jI h C 1) (e2 : jI g (B + 2) 0 = m) (e3 : ∀ k, k < 12 → jX g (B + 1) k = jX h (C + 1) k) (e4 : ∀ j, j < m → jX g (B + 3) j = jX h (C + 3) j ∧ jX g (B + 4) j = jX h (C + 4) j ∧ jX g (B + 5) j = jX h (C + 5) j) : BRep g B s node n o := by
  obtain ⟨r0, r1, r2, r3, r4⟩ := hR
  refine ⟨e0.trans r0, e1.trans r1, by rw [e2, ← hm]; exact r2, fun k hk hw => (e3 k (by omega)).trans (r3 k hk hw), fun j hj => ?_⟩
  obtain ⟨q1, q2, k, q3, q4, q5, q6⟩ := r4 j hj
  obtain ⟨f1, f2, f3⟩ := e4 j (by omega)
  exact ⟨f1.trans q1, f3.trans q2, k, q3, q4, f2.trans q5, q6⟩
end KE
