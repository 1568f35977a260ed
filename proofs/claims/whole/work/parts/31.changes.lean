/-! ===== SignalWaves$Changes ===== -/
section KB
variable {h : jH}
/-- a list of changes, with room for cap of them -/
def CH (h : jH) (c cap : Nat) : Prop := (jS h c).1 = 1 ∧ (jS h (jP h c 1)).1 = 16 ∧ (jS h (jP h c 1)).2 = cap ∧ (jS h (jP h c 2)).1 = 16 ∧ (jS h (jP h c 2)).2 = cap ∧ (jS h (jP h c 3)).1 = 16 ∧ (jS h (jP h c 3)).2 = cap
def chadd (h : jH) (c : Nat) (t w v : Int) : jH := jsI (jsX (jsX (jsX h (jP h c 1) (jI h c 0).toNat t) (jP h c 2) (jI h c 0).toNat w) (jP h c 3) (jI h c 0).toNat v) c 0 (jI h c 0 + 1)
theorem eX1_add {d c cap : Nat} {t w v : Int} (hC : CH h c cap) (h0 : 0 ≤ jI h c 0) (h1 : jI h c 0 < cap) (hcap : cap ≤ 1000) :
    Ex MX1_add d [.inr c, .inl t, .inl w, .inl v] h 0 0 (fun r g => r = none ∧ g = chadd h c t w v) := by
  obtain ⟨c1, c2, c3, c4, c5, c6, c7⟩ := hC
  refine Ex_of_V tX1_add (Nat.le_of_ble_eq_true rfl) ?_
  apply bX1_add_0
  case q1 => intro q; omega
  case q2 => intro _; exact ⟨rfl, rfl⟩
  case r1 => intro _; exact ⟨by omega, by omega⟩
  all_goals (intros; first | assumption | omega)
def chapp (h : jH) (c o m : Nat) : jH :=
  jsI (jfil (jfil (jfil h (jP h c 1) (jI h c 0).toNat ((jI h c 0).toNat + m) (fun k => jX h (jP h o 1) (k - (jI h c 0).toNat))) (jP h c 2) (jI h c 0).toNat ((jI h c 0).toNat + m) (fun k => jX h (jP h o 2) (k - (jI h c 0).toNat))) (jP h c 3) (jI h c 0).toNat ((jI h c 0).toNat + m) (fun k => jX h (jP h o 3) (k - (jI h c 0).toNat))) c 0 (((jI h c 0).toNat + m : Nat) : Int)
/-- arrays of two lists are apart -/
def chap (h : jH) (c o : Nat) : Prop := ∀ i j, 1 ≤ i → i ≤ 3 → 1 ≤ j → j ≤ 3 → jP h c i ≠ jP h o j
def chin (h : jH) (c : Nat) : Prop := jP h c 1 ≠ jP h c 2 ∧ jP h c 1 ≠ jP h c 3 ∧ jP h c 2 ≠ jP h c 3
theorem chapp_o {c o m : Nat} (ha : chap h c o) {i : Nat} (h1 : 1 ≤ i) (h3 : i ≤ 3) (k : Nat) : jX (chapp h c o m) (jP h o i) k = jX h (jP h o i) k := by
  have e1 := ha 1 i (by omega) (by omega) h1 h3
  have e2 := ha 2 i (by omega) (by omega) h1 h3
  have e3 := ha 3 i (by omega) (by omega) h1 h3
  unfold chapp
  rw [jX_sI, jX_fil, if_neg (fun z => e3 z.1.symm), jX_fil, if_neg (fun z => e2 z.1.symm), jX_fil, if_neg (fun z => e1 z.1.symm)]
theorem chapp_n {c o m : Nat} : jI (chapp h c o m) c 0 = (((jI h c 0).toNat + m : Nat) : Int) := by
  unfold chapp
  rw [jI_sI, if_pos ⟨rfl, rfl⟩]
theorem chapp_0 {c o : Nat} (h0 : 0 ≤ jI h c 0) : chapp h c o 0 = h := by
  unfold chapp
  rw [Nat.add_zero, jfil_0, jfil_0, jfil_0]
  exact jsI_self (by omega)
theorem chapp_s {c o m : Nat} (hn : chin h c) : chadd (chapp h c o m) c (jX h (jP h o 1) m) (jX h (jP h o 2) m) (jX h (jP h o 3) m) = chapp h c o (m + 1) := by
  obtain ⟨n1, n2, n3⟩ := hn
  unfold chadd
  rw [chapp_n, Int.toNat_natCast]
  refine jH_ext (fun b j => ?_) (fun _ _ => rfl) (fun b j => ?_) (fun _ _ => rfl) rfl rfl
  · unfold chapp
    simp only [jI_sI, jI_sX, jI_fil]
    split
    · omega
    · rfl
  · show jX (jsX (jsX (jsX (chapp h c o m) (jP h c 1) _ _) (jP h c 2) _ _) (jP h c 3) _ _) b j = _
    unfold chapp
    simp only [jX_sI, jX_sX, jX_fil]
    by_cases b3 : b = jP h c 3
    · have b1 : ¬ b = jP h c 1 := fun z => n2 (z.symm.trans b3)
      have b2 : ¬ b = jP h c 2 := fun z => n3 (z.symm.trans b3)
      simp only [b3, true_and]
      by_cases q : j = (jI h c 0).toNat + m
      · rw [if_pos q, if_pos (by omega), q, Nat.add_sub_cancel_left]
      · rw [if_neg q, if_neg (fun z => b2 (b3.trans z.1)), if_neg (fun z => b1 (b3.trans z.1))]
        by_cases q2 : (jI h c 0).toNat ≤ j ∧ j < (jI h c 0).toNat + m
        · rw [if_pos q2, if_pos (by omega)]
        · rw [if_neg q2, if_neg (fun z => b2 (b3.trans z.1)), if_neg (fun z => b1 (b3.trans z.1)), if_neg (by omega), if_neg (fun z => b2 (b3.trans z.1)), if_neg (fun z => b1 (b3.trans z.1))]
    · simp only [b3, false_and, if_false]
      by_cases b2 : b = jP h c 2
      · have b1 : ¬ b = jP h c 1 := fun z => n1 (z.symm.trans b2)
        simp only [b2, true_and]
        by_cases q : j = (jI h c 0).toNat + m
        · rw [if_pos q, if_pos (by omega), q, Nat.add_sub_cancel_left]
        · rw [if_neg q, if_neg (fun z => b1 (b2.trans z.1))]
          by_cases q2 : (jI h c 0).toNat ≤ j ∧ j < (jI h c 0).toNat + m
          · rw [if_pos q2, if_pos (by omega)]
          · rw [if_neg q2, if_neg (fun z => b1 (b2.trans z.1)), if_neg (by omega), if_neg (fun z => b1 (b2.trans z.1))]
      · simp only [b2, false_and, if_false]
        by_cases b1 : b = jP h c 1
        · simp only [b1, true_and]
          by_cases q : j = (jI h c 0).toNat + m
          · rw [if_pos q, if_pos (by omega), q, Nat.add_sub_cancel_left]
          · rw [if_neg q]
            by_cases q2 : (jI h c 0).toNat ≤ j ∧ j < (jI h c 0).toNat + m
            · rw [if_pos q2, if_pos (by omega)]
            · rw [if_neg q2, if_neg (by omega)]
        · simp only [b1, false_and, if_false]
theorem eX1_addAll {d c o cap capo m : Nat} (hC : CH h c cap) (hO : CH h o capo) (hap : chap h c o) (hin : chin h c) (hco : c ≠ o) (h0 : 0 ≤ jI h c 0) (hm : jI h o 0 = m) (hmo : m ≤ capo) (hsum : (jI h c 0).toNat + m ≤ cap) (hcap : cap ≤ 1000) (hcapo : capo ≤ 1000) :
    Ex MX1_addAll (d + 1) [.inr c, .inr o] h 0 0 (fun r g => r = none ∧ g = chapp h c o m) := by
  refine Ex_of_V tX1_addAll (Nat.le_of_ble_eq_true rfl) ?_
  apply bX1_addAll_0
  have key : ∀ j i : Nat, i + j = m → V MX1_addAll (d + 1) 2 [some (.inr c), some (.inr o), some (.inl (i : Int))] [] (chapp h c o i) 0 0 (fun r g => r = none ∧ g = chapp h c o m) := by
    have hO2 := hO
    obtain ⟨o1, o2, o3, o4, o5, o6, o7⟩ := hO
    have hno : ∀ i, jI (chapp h c o i) o 0 = m := fun i => by
      unfold chapp
      rw [jI_sI, if_neg (fun z => hco z.1.symm)]
      exact hm
    intro j
    induction j with
    | zero =>
      intro i hi
      obtain rfl : i = m := by omega
      apply bX1_addAll_2
      case q1 => intro _; exact ⟨rfl, rfl⟩
      case s1 => exact o1
      case s2 => exact o2
      case s5 => exact o4
      case s7 => exact o6
      case s9 => exact hC.1
      all_goals (rw [hno]; intro q; exact absurd (Int.le_refl _) q)
    | succ j ih =>
      intro i hi
      have hlt : i < m := by omega
      apply bX1_addAll_2
      case q1 => rw [hno]; intro q; omega
      case s1 => exact o1
      case s2 => exact o2
      case s5 => exact o4
      case s7 => exact o6
      case s9 => exact hC.1
      case s3 => intro _; omega
      case s4 => intro _; show (i : Int) < ((jS h (jP h o 1)).2 : Int); omega
      case s6 => intro _; show (i : Int) < ((jS h (jP h o 2)).2 : Int); omega
      case s8 => intro _; show (i : Int) < ((jS h (jP h o 3)).2 : Int); omega
      case e1 =>
        intro _
        refine Ex.mono (eX1_add (h := chapp h c o i) (cap := cap) hC (by rw [chapp_n]; omega) (by rw [chapp_n]; omega) hcap) ?_
        rintro v g ⟨rfl, rfl⟩
        rw [Int.toNat_natCast]
        show V MX1_addAll (d + 1) 32 _ [] (chadd (chapp h c o i) c (jX (chapp h c o i) (jP h o 1) i) (jX (chapp h c o i) (jP h o 2) i) (jX (chapp h c o i) (jP h o 3) i)) 0 0 _
        rw [chapp_o hap (by omega) (by omega), chapp_o hap (by omega) (by omega), chapp_o hap (by omega) (by omega), chapp_s hin]
        apply bX1_addAll_32
        case r1 => exact ⟨by omega, by omega⟩
        case k1 => exact ih (i + 1) (by omega)
  have h1 := key m 0 (by omega)
  rw [chapp_0 h0] at h1
  exact h1
/-- a list of changes becomes the other one -/
theorem eX1_copyFrom {d c o cap capo m : Nat} (hC : CH h c cap) (hO : CH h o capo) (hap : chap h c o) (hin : chin h c) (hco : c ≠ o) (hm : jI h o 0 = m) (hmo : m ≤ capo) (hsum : m ≤ cap) (hcap : cap ≤ 1000) (hcapo : capo ≤ 1000) :
    Ex MX1_copyFrom (d + 2) [.inr c, .inr o] h 0 0 (fun r g => r = none ∧ g = chapp (jsI h c 0 0) c o m) := by
  refine Ex_of_V tX1_copyFrom (Nat.le_of_ble_eq_true rfl) ?_
  apply bX1_copyFrom_0
  case s1 => exact hC.1
  have e0 : jI (jsI h c 0 0) c 0 = 0 := by rw [jI_sI, if_pos ⟨rfl, rfl⟩]
  refine Ex.mono (eX1_addAll (h := jsI h c 0 0) (cap := cap) (capo := capo) (m := m) hC hO hap hin hco (by rw [e0]; omega) (by rw [jI_sI, if_neg (fun z => hco z.1.symm)]; exact hm) hmo (by rw [e0]; omega) hcap hcapo) ?_
  rintro v g ⟨rfl, rfl⟩
  apply bX1_copyFrom_10
  exact ⟨rfl, rfl⟩
end KB
