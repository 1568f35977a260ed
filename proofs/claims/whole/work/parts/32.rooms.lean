/-! ===== dictionaries and rooms: the numbers, and SignalWaves$Changes' side ===== -/
section KC
variable {h : jH}
/-- how many of the first n values behind a are new where they stand -/
def dc (f : Nat → Int) (a : Nat) : Nat → Nat
  | 0 => 0
  | n + 1 => dc f a n + (if ∀ j, j < n → f (a + j) ≠ f (a + n) then 1 else 0)
theorem dc_le (f : Nat → Int) (a : Nat) : ∀ n, dc f a n ≤ n
  | 0 => Nat.le_refl 0
  | n + 1 => by have := dc_le f a n; unfold dc; split <;> omega
def fi (f : Nat → Int) (v : Int) (a : Nat) : Nat → Nat → Nat
  | 0, m => m
  | k + 1, m => if f (a + m) = v then m else fi f v a k (m + 1)
theorem fi_le (f : Nat → Int) (v : Int) (a : Nat) : ∀ k m, fi f v a k m ≤ m + k
  | 0, m => Nat.le_refl m
  | k + 1, m => by
    unfold fi
    split
    · omega
    · have := fi_le f v a k (m + 1); omega
/-- the place in the dictionary of the n-th value behind a -/
def pl (f : Nat → Int) (a n : Nat) : Nat := dc f a (fi f (f (a + n)) a n 0)
theorem pl_le (f : Nat → Int) (a n : Nat) : pl f a n ≤ n := by
  have h1 := fi_le f (f (a + n)) a n 0
  have h2 := dc_le f a (fi f (f (a + n)) a n 0)
  unfold pl
  omega
def stp (p : Int) : Int := if p ≤ 0 then 0 else if 16 ≤ p then 2 else 1
/-- what the first n changes behind a cost -/
def rmc (f g : Nat → Int) (a : Nat) (b : Int) : Nat → Int
  | 0 => 0
  | n + 1 => rmc f g a b n + (1 + (if 2 ≤ pl f a n then 1 else 0) + stp (g (a + n) - (if n = 0 then b else g (a + n - 1))))
theorem stp_b (p : Int) : 0 ≤ stp p ∧ stp p ≤ 2 := by unfold stp; split <;> (try split) <;> omega
theorem rmc_b (f g : Nat → Int) (a : Nat) (b : Int) : ∀ n, 0 ≤ rmc f g a b n ∧ rmc f g a b n ≤ 4 * n
  | 0 => ⟨Int.le_refl 0, Int.le_refl 0⟩
  | n + 1 => by
    have h1 := rmc_b f g a b n
    have h2 := stp_b (g (a + n) - (if n = 0 then b else g (a + n - 1)))
    unfold rmc
    split <;> omega
def rm (f g : Nat → Int) (wc : Int) (a : Nat) (b : Int) (n : Nat) : Int := 2 + wc + 2 * (dc f a n : Int) + rmc f g a b n
theorem eX1_isNew {d c a n : Nat} (h1 : (jS h c).1 = 1) (h2 : (jS h (jP h c 3)).1 = 16) (h3 : a + n < (jS h (jP h c 3)).2) (h4 : (jS h (jP h c 3)).2 ≤ 1000) :
    Ex MX1_isNew d [.inr c, .inl ((a + n : Nat) : Int), .inl (a : Int)] h 0 0 (fun r g => r = some (.inl (if ∀ j, j < n → jX h (jP h c 3) (a + j) ≠ jX h (jP h c 3) (a + n) then 1 else 0)) ∧ g = h) := by
  refine Ex_of_V tX1_isNew (Nat.le_of_ble_eq_true rfl) ?_
  apply bX1_isNew_0
  have key : ∀ k m : Nat, m + k = n → (∀ j, j < m → jX h (jP h c 3) (a + j) ≠ jX h (jP h c 3) (a + n)) → V MX1_isNew d 2 [some (.inr c), some (.inl ((a + n : Nat) : Int)), some (.inl (a : Int)), some (.inl ((a + m : Nat) : Int))] [] h 0 0 (fun r g => r = some (.inl (if ∀ j, j < n → jX h (jP h c 3) (a + j) ≠ jX h (jP h c 3) (a + n) then 1 else 0)) ∧ g = h) := by
    intro k
    induction k with
    | zero =>
      intro m hm hall
      obtain rfl : m = n := by omega
      apply bX1_isNew_2
      case q1 => intro _; rw [if_pos hall]; exact ⟨rfl, rfl⟩
      all_goals (intros; first | assumption | omega)
    | succ k ih =>
      intro m hm hall
      apply bX1_isNew_2
      case q1 => intro q; omega
      case r1 => intro _ _; exact ⟨by omega, by omega⟩
      case k1 =>
        intro _ q
        rw [Int.toNat_natCast, Int.toNat_natCast] at q
        rw [show ((a + m : Nat) : Int) + 1 = ((a + (m + 1) : Nat) : Int) by omega]
        refine ih (m + 1) (by omega) (fun j hj => ?_)
        rcases (show j < m ∨ j = m by omega) with z | rfl
        · exact hall j z
        · exact q
      case q2 =>
        intro _ q
        rw [Int.toNat_natCast, Int.toNat_natCast] at q
        rw [if_neg (fun z => z m (by omega) q)]
        exact ⟨rfl, rfl⟩
      all_goals (intros; first | assumption | omega)
  have h9 := key n 0 (by omega) (fun j hj => absurd hj (by omega))
  exact h9
theorem eX1_different {d c a n : Nat} (h1 : (jS h c).1 = 1) (h2 : (jS h (jP h c 3)).1 = 16) (h3 : a + n ≤ (jS h (jP h c 3)).2) (h4 : (jS h (jP h c 3)).2 ≤ 1000) :
    Ex MX1_different (d + 1) [.inr c, .inl (a : Int), .inl ((a + n : Nat) : Int)] h 0 0 (fun r g => r = some (.inl (dc (jX h (jP h c 3)) a n : Int)) ∧ g = h) := by
  refine Ex_of_V tX1_different (Nat.le_of_ble_eq_true rfl) ?_
  apply bX1_different_0
  have key : ∀ k m : Nat, m + k = n → V MX1_different (d + 1) 5 [some (.inr c), some (.inl (a : Int)), some (.inl ((a + n : Nat) : Int)), some (.inl (dc (jX h (jP h c 3)) a m : Int)), some (.inl ((a + m : Nat) : Int))] [] h 0 0 (fun r g => r = some (.inl (dc (jX h (jP h c 3)) a n : Int)) ∧ g = h) := by
    intro k
    induction k with
    | zero =>
      intro m hm
      obtain rfl : m = n := by omega
      apply bX1_different_5
      case q1 => intro _; exact ⟨rfl, rfl⟩
      case e1 => intro q; omega
      case s1 => exact h1
    | succ k ih =>
      intro m hm
      have hle := dc_le (jX h (jP h c 3)) a m
      apply bX1_different_5
      case q1 => intro q; omega
      case s1 => exact h1
      case e1 =>
        intro _
        refine Ex.mono (eX1_isNew h1 h2 (by omega) h4) ?_
        rintro v g ⟨rfl, rfl⟩
        apply bX1_different_18
        case r1 => intro _; exact ⟨by omega, by omega⟩
        case r2 => intro _; exact ⟨by omega, by omega⟩
        case r3 => intro _; exact ⟨by omega, by omega⟩
        case k1 =>
          intro q
          have h9 := ih (m + 1) (by omega)
          rw [show dc (jX g (jP g c 3)) a (m + 1) = dc (jX g (jP g c 3)) a m by
            conv => lhs; unfold dc
            split
            · rename_i z; rw [if_pos z] at q; omega
            · exact Nat.add_zero _] at h9
          rw [show ((a + m : Nat) : Int) + 1 = ((a + (m + 1) : Nat) : Int) by omega]
          exact h9
        case k2 =>
          intro q
          have h9 := ih (m + 1) (by omega)
          rw [show (dc (jX g (jP g c 3)) a (m + 1) : Int) = (dc (jX g (jP g c 3)) a m : Int) + 1 by
            conv => lhs; unfold dc
            split
            · omega
            · rename_i z; rw [if_neg z] at q; omega] at h9
          rw [show ((a + m : Nat) : Int) + 1 = ((a + (m + 1) : Nat) : Int) by omega]
          exact h9
  have h9 := key n 0 (by omega)
  exact h9
theorem eX1_indexOf {d c a n : Nat} (h1 : (jS h c).1 = 1) (h2 : (jS h (jP h c 3)).1 = 16) (h3 : a + n < (jS h (jP h c 3)).2) (h4 : (jS h (jP h c 3)).2 ≤ 1000) :
    Ex MX1_indexOf (d + 2) [.inr c, .inl ((a + n : Nat) : Int), .inl (a : Int)] h 0 0 (fun r g => r = some (.inl (pl (jX h (jP h c 3)) a n : Int)) ∧ g = h) := by
  refine Ex_of_V tX1_indexOf (Nat.le_of_ble_eq_true rfl) ?_
  apply bX1_indexOf_0
  have fin : ∀ m : Nat, m ≤ n → fi (jX h (jP h c 3)) (jX h (jP h c 3) (a + n)) a n 0 = m → Ex MX1_different (d + 1) [.inr c, .inl (a : Int), .inl ((a + m : Nat) : Int)] h 0 0 (fun v h2 => V MX1_indexOf (d + 2) 34 [some (.inr c), some (.inl ((a + n : Nat) : Int)), some (.inl (a : Int)), some (.inl ((a + m : Nat) : Int))] (v.toList ++ []) h2 0 0 (fun r g => r = some (.inl (pl (jX h (jP h c 3)) a n : Int)) ∧ g = h)) := by
    intro m hm hf
    refine Ex.mono (eX1_different h1 h2 (by omega) h4) ?_
    rintro v g ⟨rfl, rfl⟩
    apply bX1_indexOf_34
    unfold pl
    rw [hf]
    exact ⟨rfl, rfl⟩
  have key : ∀ k m : Nat, m + k = n → fi (jX h (jP h c 3)) (jX h (jP h c 3) (a + n)) a n 0 = fi (jX h (jP h c 3)) (jX h (jP h c 3) (a + n)) a k m → V MX1_indexOf (d + 2) 2 [some (.inr c), some (.inl ((a + n : Nat) : Int)), some (.inl (a : Int)), some (.inl ((a + m : Nat) : Int))] [] h 0 0 (fun r g => r = some (.inl (pl (jX h (jP h c 3)) a n : Int)) ∧ g = h) := by
    intro k
    induction k with
    | zero =>
      intro m hm hf
      apply bX1_indexOf_2
      case e1 => intro _; exact fin m (by omega) hf
      all_goals (intros; first | assumption | omega)
    | succ k ih =>
      intro m hm hf
      apply bX1_indexOf_2
      case e1 => intro q; omega
      case e2 =>
        intro _ q
        rw [Int.toNat_natCast, Int.toNat_natCast] at q
        refine fin m (by omega) ?_
        rw [hf]
        unfold fi
        rw [if_pos q]
      case r1 => intro _ _; exact ⟨by omega, by omega⟩
      case k1 =>
        intro _ q
        rw [Int.toNat_natCast, Int.toNat_natCast] at q
        rw [show ((a + m : Nat) : Int) + 1 = ((a + (m + 1) : Nat) : Int) by omega]
        refine ih (m + 1) (by omega) ?_
        rw [hf]
        conv => lhs; unfold fi
        rw [if_neg q]
      all_goals (intros; first | assumption | omega)
  have h9 := key n 0 (by omega) rfl
  exact h9
theorem eX1_room {d c a n : Nat} {wc b : Int} (h1 : (jS h c).1 = 1) (h2 : (jS h (jP h c 3)).1 = 16) (h3 : a + n ≤ (jS h (jP h c 3)).2) (h4 : (jS h (jP h c 3)).2 ≤ 1000) (h5 : (jS h (jP h c 1)).1 = 16) (h6 : a + n ≤ (jS h (jP h c 1)).2) (hw : 0 ≤ wc) (hw2 : wc ≤ 6) (hb : 0 ≤ b) (hb2 : b ≤ 999) (ht : ∀ i, i < n → 0 ≤ jX h (jP h c 1) (a + i) ∧ jX h (jP h c 1) (a + i) ≤ 999) :
    Ex MX1_room (d + 3) [.inr c, .inl wc, .inl b, .inl (a : Int), .inl ((a + n : Nat) : Int)] h 0 0 (fun r g => r = some (.inl (rm (jX h (jP h c 3)) (jX h (jP h c 1)) wc a b n)) ∧ g = h) := by
  refine Ex_of_V tX1_room (Nat.le_of_ble_eq_true rfl) ?_
  apply bX1_room_0
  case s1 => exact h1
  case r1 => exact ⟨by omega, by omega⟩
  refine Ex.mono (eX1_different h1 h2 h3 h4) ?_
  rintro v g ⟨rfl, rfl⟩
  have hdn := dc_le (jX g (jP g c 3)) a n
  apply bX1_room_11
  case r1 => exact ⟨by omega, by omega⟩
  case r2 => exact ⟨by omega, by omega⟩
  have key : ∀ (k m : Nat) (u : Option jA), m + k = n → V MX1_room (d + 3) 21 [some (.inr c), some (.inl wc), some (.inl b), some (.inl (a : Int)), some (.inl ((a + n : Nat) : Int)), some (.inl (2 + wc + 2 * (dc (jX g (jP g c 3)) a n : Int) + rmc (jX g (jP g c 3)) (jX g (jP g c 1)) a b m)), some (.inl (if m = 0 then b else jX g (jP g c 1) (a + m - 1))), some (.inl ((a + m : Nat) : Int)), u] [] g 0 0 (fun r g2 => r = some (.inl (rm (jX g (jP g c 3)) (jX g (jP g c 1)) wc a b n)) ∧ g2 = g) := by
    intro k
    induction k with
    | zero =>
      intro m u hm
      obtain rfl : m = n := by omega
      apply bX1_room_21
      case q1 => intro _; exact ⟨rfl, rfl⟩
      all_goals (intros; first | assumption | omega)
    | succ k ih =>
      intro m u hm
      have hrb := rmc_b (jX g (jP g c 3)) (jX g (jP g c 1)) a b m
      have htm := ht m (by omega)
      have hprev : 0 ≤ (if m = 0 then b else jX g (jP g c 1) (a + m - 1)) ∧ (if m = 0 then b else jX g (jP g c 1) (a + m - 1)) ≤ 999 := by
        split
        · exact ⟨hb, hb2⟩
        · have := ht (m - 1) (by omega)
          rw [show a + (m - 1) = a + m - 1 by omega] at this
          exact this
      have hstep := ih (m + 1) (some (.inl (jX g (jP g c 1) (a + m) - (if m = 0 then b else jX g (jP g c 1) (a + m - 1))))) (by omega)
      rw [if_neg (by omega), show a + (m + 1) - 1 = a + m by omega] at hstep
      rw [show rmc (jX g (jP g c 3)) (jX g (jP g c 1)) a b (m + 1) = rmc (jX g (jP g c 3)) (jX g (jP g c 1)) a b m + (1 + (if 2 ≤ pl (jX g (jP g c 3)) a m then 1 else 0) + stp (jX g (jP g c 1) (a + m) - (if m = 0 then b else jX g (jP g c 1) (a + m - 1)))) from rfl] at hstep
      generalize (if m = 0 then b else jX g (jP g c 1) (a + m - 1)) = prev at hprev hstep ⊢
      apply bX1_room_21
      case q1 => intro q; omega
      case r1 => intro _; rw [Int.toNat_natCast]; exact ⟨by omega, by omega⟩
      case r2 => intro _; exact ⟨by omega, by omega⟩
      case e1 =>
        intro _
        refine Ex.mono (eX1_indexOf h1 h2 (by omega) h4) ?_
        rintro v g2 ⟨rfl, rfl⟩
        have hp := pl_le (jX g2 (jP g2 c 3)) a m
        rw [Int.toNat_natCast]
        have tail : ∀ z : Int, -100 ≤ z → z ≤ 10000 → V MX1_room (d + 3) 79 [some (.inr c), some (.inl wc), some (.inl b), some (.inl (a : Int)), some (.inl ((a + n : Nat) : Int)), some (.inl (z + stp (jX g2 (jP g2 c 1) (a + m) - prev))), some (.inl prev), some (.inl ((a + m : Nat) : Int)), some (.inl (jX g2 (jP g2 c 1) (a + m) - prev))] [] g2 0 0 (fun r g3 => r = some (.inl (rm (jX g2 (jP g2 c 3)) (jX g2 (jP g2 c 1)) wc a b n)) ∧ g3 = g2) → V MX1_room (d + 3) 57 [some (.inr c), some (.inl wc), some (.inl b), some (.inl (a : Int)), some (.inl ((a + n : Nat) : Int)), some (.inl z), some (.inl prev), some (.inl ((a + m : Nat) : Int)), some (.inl (jX g2 (jP g2 c 1) (a + m) - prev))] [] g2 0 0 (fun r g3 => r = some (.inl (rm (jX g2 (jP g2 c 3)) (jX g2 (jP g2 c 1)) wc a b n)) ∧ g3 = g2) := by
          intro z hz1 hz2 hk
          apply bX1_room_57
          case k1 => intro q; unfold stp at hk; rw [if_pos q, Int.add_zero] at hk; exact hk
          case k2 =>
            intro q q2
            unfold stp at hk
            rw [if_neg q, if_pos q2] at hk
            apply bX1_room_76
            case r1 => exact ⟨by omega, by omega⟩
            case k1 => exact hk
          case k3 =>
            intro q q2
            unfold stp at hk
            rw [if_neg q, if_neg q2] at hk
            apply bX1_room_76
            case r1 => exact ⟨by omega, by omega⟩
            case k1 => exact hk
        have last : ∀ z : Int, z = 2 + wc + 2 * (dc (jX g2 (jP g2 c 3)) a n : Int) + rmc (jX g2 (jP g2 c 3)) (jX g2 (jP g2 c 1)) a b m + 1 + (if 2 ≤ pl (jX g2 (jP g2 c 3)) a m then 1 else 0) → V MX1_room (d + 3) 79 [some (.inr c), some (.inl wc), some (.inl b), some (.inl (a : Int)), some (.inl ((a + n : Nat) : Int)), some (.inl (z + stp (jX g2 (jP g2 c 1) (a + m) - prev))), some (.inl prev), some (.inl ((a + m : Nat) : Int)), some (.inl (jX g2 (jP g2 c 1) (a + m) - prev))] [] g2 0 0 (fun r g3 => r = some (.inl (rm (jX g2 (jP g2 c 3)) (jX g2 (jP g2 c 1)) wc a b n)) ∧ g3 = g2) := by
          intro z hz
          apply bX1_room_79
          case s1 => exact h1
          case s2 => exact h5
          case s3 => omega
          case s4 => omega
          case r1 => exact ⟨by omega, by omega⟩
          case k1 =>
            rw [Int.toNat_natCast, show ((a + m : Nat) : Int) + 1 = ((a + (m + 1) : Nat) : Int) by omega]
            rw [show z + stp (jX g2 (jP g2 c 1) (a + m) - prev) = 2 + wc + 2 * (dc (jX g2 (jP g2 c 3)) a n : Int) + (rmc (jX g2 (jP g2 c 3)) (jX g2 (jP g2 c 1)) a b m + (1 + (if 2 ≤ pl (jX g2 (jP g2 c 3)) a m then 1 else 0) + stp (jX g2 (jP g2 c 1) (a + m) - prev))) by rw [hz]; omega]
            exact hstep
        apply bX1_room_50
        case k1 =>
          intro q
          refine tail _ (by omega) (by omega) (last _ ?_)
          rw [if_neg (by omega)]; omega
        case r1 => intro _; exact ⟨by omega, by omega⟩
        case k2 =>
          intro q
          refine tail _ (by omega) (by omega) (last _ ?_)
          rw [if_pos (by omega)]
      all_goals (intros; first | assumption | omega)
  have h9 := key n 0 none (by omega)
  rw [show rmc (jX g (jP g c 3)) (jX g (jP g c 1)) a b 0 = 0 from rfl, Int.add_zero, if_pos rfl] at h9
  exact h9
end KC
