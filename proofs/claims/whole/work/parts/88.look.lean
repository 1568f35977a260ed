/-! ===== both sides: look ===== -/
section MH
variable {h g : jH} {node wi sn code cm s past T W : Nat → Int} {n nw nd ns u D o : Nat} {K : Int} {row row' : Nat → Int} {set : Int}
/-- how many of the first m are in the set and have the value of signal i, which is in it -/
def cg (set : Int) (row : Nat → Int) (i : Nat) : Nat → Nat
  | 0 => 0
  | m + 1 => cg set row i m + (if jand (jshr set (i : Int)) 1 = 1 ∧ jand (jshr set (m : Int)) 1 = 1 ∧ row i = row m then 1 else 0)
def gg (set : Int) (row : Nat → Int) (M : Nat) : Nat → Nat
  | 0 => 0
  | k + 1 => max (gg set row M k) (cg set row k M)
theorem gg_s {M k : Nat} : gg set row M (k + 1) = max (gg set row M k) (cg set row k M) := rfl
theorem cg_y {i m : Nat} (h1 : jand (jshr set (i : Int)) 1 = 1) (h2 : jand (jshr set (m : Int)) 1 = 1) (h3 : row i = row m) : cg set row i (m + 1) = cg set row i m + 1 := by
  conv => lhs; unfold cg
  rw [if_pos ⟨h1, h2, h3⟩]
theorem cg_n {i m : Nat} (h1 : ¬ (jand (jshr set (i : Int)) 1 = 1 ∧ jand (jshr set (m : Int)) 1 = 1 ∧ row i = row m)) : cg set row i (m + 1) = cg set row i m := by
  conv => lhs; unfold cg
  rw [if_neg h1, Nat.add_zero]
theorem cg_le {i : Nat} : ∀ m, cg set row i m ≤ m
  | 0 => Nat.le_refl _
  | m + 1 => by
    have := cg_le (i := i) m
    unfold cg
    split <;> omega
theorem gg_le {M : Nat} : ∀ k, gg set row M k ≤ M
  | 0 => Nat.zero_le _
  | k + 1 => by
    have h1 := gg_le (M := M) k
    have h2 := cg_le (set := set) (row := row) (i := k) M
    rw [gg_s]
    omega
theorem cg_ext {i : Nat} (hb : ∀ k, n ≤ k → k < 12 → ¬ bit set k) : ∀ c, n + c ≤ 12 → cg set row i (n + c) = cg set row i n
  | 0, _ => rfl
  | c + 1, q => by
    rw [← Nat.add_assoc, cg_n (fun z => hb (n + c) (by omega) (by omega) z.2.1), cg_ext hb c (by omega)]
theorem cg_out {i : Nat} (hb : ¬ bit set i) : ∀ m, cg set row i m = 0
  | 0 => rfl
  | m + 1 => by rw [cg_n (fun z => hb z.1), cg_out hb m]
theorem gg_ext {M : Nat} (hb : ∀ k, n ≤ k → k < 12 → ¬ bit set k) : ∀ c, n + c ≤ 12 → gg set row M (n + c) = gg set row M n
  | 0, _ => rfl
  | c + 1, q => by
    rw [← Nat.add_assoc]
    rw [gg_s, cg_out (hb (n + c) (by omega) (by omega)), gg_ext hb c (by omega)]
    omega
theorem cg_cong {i : Nat} (hi : i < n) (hr : ∀ k, k < n → row k = row' k) : ∀ m, m ≤ n → cg set row i m = cg set row' i m
  | 0, _ => rfl
  | m + 1, q => by
    unfold cg
    rw [cg_cong hi hr m (by omega), hr i hi, hr m (by omega)]
theorem gg_cong (hr : ∀ k, k < n → row k = row' k) : ∀ k, k ≤ n → gg set row n k = gg set row' n k
  | 0, _ => rfl
  | k + 1, q => by
    rw [gg_s, gg_s, gg_cong hr k (by omega), cg_cong (by omega) hr n (Nat.le_refl n)]
theorem gg_all (hn : n ≤ 12) (hb : ∀ k, n ≤ k → k < 12 → ¬ bit set k) (hr : ∀ k, k < n → row k = row' k) : gg set row 12 12 = gg set row' n n := by
  have e : ∀ k, k ≤ 12 → gg set row 12 k = gg set row n k := by
    intro k
    induction k with
    | zero => intro _; rfl
    | succ k ih =>
      intro q
      rw [gg_s, gg_s, ih (by omega)]
      have := cg_ext (row := row) (i := k) hb (12 - n) (by omega)
      rw [show n + (12 - n) = 12 by omega] at this
      rw [this]
  rw [e 12 (Nat.le_refl _)]
  have h1 := gg_ext (row := row) (M := n) hb (12 - n) (by omega)
  rw [show n + (12 - n) = 12 by omega] at h1
  rw [h1, gg_cong hr n (Nat.le_refl n)]
theorem eX3_greatestGroup {d i : Nat} (hK : HK h) (hY : HY h) (hi : i < 61) :
    Ex MX3_greatestGroup d [.inr 329, .inl set, .inl (i : Int)] h 0 0 (fun r g => r = some (.inl (gg set (jX h (332 + i)) 12 12 : Int)) ∧ g = h) := by
  obtain ⟨k1, k2, k3, k4, k5, k6⟩ := id hK
  have ey : jY h (jP h 329 3) ((((i : Nat) : Int)).toNat) = 332 + i := by rw [k3, Int.toNat_natCast]; exact hY i hi
  have es : jS h (332 + i) = (16, 12) := k6 i hi
  refine Ex_of_V tX3_greatestGroup (Nat.le_of_ble_eq_true rfl) ?_
  apply bX3_greatestGroup_0
  have outer : ∀ c a : Nat, a + c = 12 → ∀ u5 u6 u7, V MX3_greatestGroup d 5 [some (.inr 329), some (.inl set), some (.inl (i : Int)), some (.inl (gg set (jX h (332 + i)) 12 a : Int)), some (.inl (a : Int)), u5, u6, u7] [] h 0 0 (fun r g => r = some (.inl (gg set (jX h (332 + i)) 12 12 : Int)) ∧ g = h) := by
    intro c
    induction c with
    | zero =>
      intro a ha u5 u6 u7
      obtain rfl : a = 12 := by omega
      apply bX3_greatestGroup_5
      case q1 => intro _; exact ⟨rfl, rfl⟩
      case k1 => intro z; omega
    | succ c ih =>
      intro a ha u5 u6 u7
      apply bX3_greatestGroup_5
      case q1 => intro z; omega
      case k1 =>
        intro _
        have hgl := gg_le (set := set) (row := jX h (332 + i)) (M := 12) a
        have inner : ∀ c m : Nat, m + c = 12 → ∀ u7, V MX3_greatestGroup d 18 [some (.inr 329), some (.inl set), some (.inl (i : Int)), some (.inl (gg set (jX h (332 + i)) 12 a : Int)), some (.inl (a : Int)), some (.inl (cg set (jX h (332 + i)) a m : Int)), some (.inl (m : Int)), u7] [] h 0 0 (fun r g => r = some (.inl (gg set (jX h (332 + i)) 12 12 : Int)) ∧ g = h) := by
          intro c
          induction c with
          | zero =>
            intro m hm u7
            obtain rfl : m = 12 := by omega
            apply bX3_greatestGroup_18
            case k1 =>
              intro _
              rw [show (a : Int) + 1 = ((a + 1 : Nat) : Int) by omega, show max (gg set (jX h (332 + i)) 12 a : Int) (cg set (jX h (332 + i)) a 12 : Int) = (gg set (jX h (332 + i)) 12 (a + 1) : Int) by rw [gg_s]; omega]
              exact ih (a + 1) (by omega) _ _ _
            all_goals first
              | exact k1
              | (rw [k3, k5]; done)
              | (intros; exact ⟨by omega, by omega⟩)
              | (intro z; omega)
          | succ c ih2 =>
            intro m hm u7
            have hcl := cg_le (set := set) (row := jX h (332 + i)) (i := a) m
            have e1 : (m : Int) + 1 = ((m + 1 : Nat) : Int) := by omega
            apply bX3_greatestGroup_18
            case k1 => intro z; omega
            case k2 =>
              rw [e1]
              intro _ q
              have h9 := ih2 (m + 1) (by omega) (some (.inl 0))
              rw [cg_n (fun z => q z.1)] at h9
              exact h9
            case k3 =>
              rw [e1]
              intro _ q q2
              have h9 := ih2 (m + 1) (by omega) (some (.inl 0))
              rw [cg_n (fun z => q2 z.2.1)] at h9
              exact h9
            case k4 =>
              rw [e1, ey, Int.toNat_natCast, Int.toNat_natCast]
              intro _ q q2 q3
              have h9 := ih2 (m + 1) (by omega) (some (.inl 1))
              rw [cg_n (fun z => q3 z.2.2)] at h9
              exact h9
            case k5 =>
              rw [e1, ey, Int.toNat_natCast, Int.toNat_natCast]
              intro _ q q2 q3
              have h9 := ih2 (m + 1) (by omega) (some (.inl 1))
              rw [cg_y q q2 q3] at h9
              exact h9
            all_goals first
              | exact k1
              | (rw [k3, k5]; done)
              | (intros; exact ⟨by omega, by omega⟩)
              | (intros; omega)
              | (rw [ey, es]; done)
              | (intros; rw [ey, es]; done)
              | (intros; rw [k3, k5]; done)
              | (intros; rw [k3, k5]; refine Int.lt_of_le_of_lt (b := 60) ?_ (by decide); omega)
              | (intros; rw [ey, es]; refine Int.lt_of_le_of_lt (b := 11) ?_ (by decide); omega)
        exact inner 12 0 (by omega) _
  exact outer 12 0 (by omega) _ _ _
theorem eX9_mostAlike {d : Nat} (hM : MK h) (hn : jI h 476 1 = (n : Int)) (hn12 : n ≤ 12) :
    Ex MX9_mostAlike d [.inr 476, .inl set] h 0 0 (fun r g => r = some (.inl (gg set (jX h 493) n n : Int)) ∧ g = h) := by
  refine Ex_of_V tX9_mostAlike (Nat.le_of_ble_eq_true rfl) ?_
  apply bX9_mostAlike_0
  have outer : ∀ c a : Nat, a + c = n → ∀ u5 u6, V MX9_mostAlike d 4 [some (.inr 476), some (.inl set), some (.inl (gg set (jX h 493) n a : Int)), some (.inl (a : Int)), u5, u6] [] h 0 0 (fun r g => r = some (.inl (gg set (jX h 493) n n : Int)) ∧ g = h) := by
    intro c
    induction c with
    | zero =>
      intro a ha u5 u6
      obtain rfl : a = n := by omega
      apply bX9_mostAlike_4
      case q1 => intro _; exact ⟨rfl, rfl⟩
      case k1 => rw [hn]; intro z; omega
      all_goals exact hM.x
    | succ c ih =>
      intro a ha u5 u6
      apply bX9_mostAlike_4
      case q1 => rw [hn]; intro z; omega
      case k1 =>
        intro _
        have hgl := gg_le (set := set) (row := jX h 493) (M := n) a
        have inner : ∀ c m : Nat, m + c = n → V MX9_mostAlike d 18 [some (.inr 476), some (.inl set), some (.inl (gg set (jX h 493) n a : Int)), some (.inl (a : Int)), some (.inl (cg set (jX h 493) a m : Int)), some (.inl (m : Int))] [] h 0 0 (fun r g => r = some (.inl (gg set (jX h 493) n n : Int)) ∧ g = h) := by
          intro c
          induction c with
          | zero =>
            intro m hm
            have hcl := cg_le (set := set) (row := jX h 493) (i := a) m
            apply bX9_mostAlike_18
            case k1 =>
              intro _ q
              rw [show (a : Int) + 1 = ((a + 1 : Nat) : Int) by omega, show (gg set (jX h 493) n a : Int) = (gg set (jX h 493) n (a + 1) : Int) by rw [gg_s]; obtain rfl : n = m := (by omega); omega]
              exact ih (a + 1) (by omega) _ _
            case k2 =>
              intro _ q
              rw [show (a : Int) + 1 = ((a + 1 : Nat) : Int) by omega, show (cg set (jX h 493) a m : Int) = (gg set (jX h 493) n (a + 1) : Int) by rw [gg_s]; obtain rfl : n = m := (by omega); omega]
              exact ih (a + 1) (by omega) _ _
            all_goals (try rw [hn])
            all_goals first
              | exact hM.x
              | (rw [hM.p36, hM.s493]; done)
              | (intros; exact ⟨by omega, by omega⟩)
              | (intro z; omega)
          | succ c ih2 =>
            intro m hm
            have hcl := cg_le (set := set) (row := jX h 493) (i := a) m
            have e1 : (m : Int) + 1 = ((m + 1 : Nat) : Int) := by omega
            apply bX9_mostAlike_18
            case k1 => rw [hn]; intro z; omega
            case k2 => rw [hn]; intro z; omega
            case k3 =>
              rw [e1, Int.add_zero]
              intro _ q
              have h9 := ih2 (m + 1) (by omega)
              rw [cg_n (fun z => q z.1)] at h9
              exact h9
            case k4 =>
              rw [e1, Int.add_zero]
              intro _ q q2
              have h9 := ih2 (m + 1) (by omega)
              rw [cg_n (fun z => q2 z.2.1)] at h9
              exact h9
            case k5 =>
              rw [e1, Int.add_zero, hM.p36, Int.toNat_natCast, Int.toNat_natCast]
              intro _ q q2 q3
              have h9 := ih2 (m + 1) (by omega)
              rw [cg_n (fun z => q3 z.2.2)] at h9
              exact h9
            case k6 =>
              rw [e1, hM.p36, Int.toNat_natCast, Int.toNat_natCast]
              intro _ q q2 q3
              have h9 := ih2 (m + 1) (by omega)
              rw [cg_y q q2 q3] at h9
              exact h9
            all_goals (try rw [hn])
            all_goals first
              | exact hM.x
              | (rw [hM.p36, hM.s493]; done)
              | (intros; exact ⟨by omega, by omega⟩)
              | (intros; omega)
              | (intros; rw [hM.p36, hM.s493]; refine Int.lt_of_le_of_lt (b := 11) ?_ (by decide); omega)
        exact inner n 0 (by omega)
      all_goals exact hM.x
  exact outer n 0 (by omega) _ _
end MH
