/-! ===== names ===== -/
section MJ
variable {h g : jH} {node wi sn code cm s past : Nat → Int} {n nw nd ns u D : Nat} {K x c : Int} {f f' q q' : Nat → Int}
/-- the one of the first n with this home and this name, or -9 -/
def has (f q : Nat → Int) (n : Nat) (x c z : Int) : Prop := (∃ k : Nat, k < n ∧ f k = x ∧ q k = c ∧ z = (k : Int)) ∨ ((∀ k, k < n → ¬ (f k = x ∧ q k = c)) ∧ z = -9)
theorem has_b {z : Int} (h1 : has f q n x c z) : z = -9 ∨ (0 ≤ z ∧ z < n) := by
  rcases h1 with ⟨k, k1, k2, k3, k4⟩ | ⟨k1, k2⟩
  · right; omega
  · left; exact k2
theorem has_u {z z' : Int} (hu : ∀ j k, j < n → k < n → f j = f k → q j = q k → j = k) (h1 : has f q n x c z) (h2 : has f q n x c z') : z = z' := by
  rcases h1 with ⟨k, k1, k2, k3, k4⟩ | ⟨k1, k2⟩ <;> rcases h2 with ⟨k', k1', k2', k3', k4'⟩ | ⟨k1', k2'⟩
  · have := hu k k' k1 k1' (k2.trans k2'.symm) (k3.trans k3'.symm)
    omega
  · exact absurd ⟨k2, k3⟩ (k1' k k1)
  · exact absurd ⟨k2', k3'⟩ (k1 k' k1')
  · omega
theorem has_cong {x' z : Int} (he : ∀ k, k < n → (f k = x ↔ f' k = x') ∧ q k = q' k) (h1 : has f q n x c z) : has f' q' n x' c z := by
  rcases h1 with ⟨k, k1, k2, k3, k4⟩ | ⟨k1, k2⟩
  · exact Or.inl ⟨k, k1, (he k k1).1.mp k2, by rw [← (he k k1).2]; exact k3, k4⟩
  · exact Or.inr ⟨fun k hk y => k1 k hk ⟨(he k hk).1.mpr y.1, by rw [(he k hk).2]; exact y.2⟩, k2⟩
def nmc (z1 z2 : Int) : Int := if z1 ≠ -9 then z1 else if z2 ≠ -9 then 100 + z2 else -9
theorem eX2_named {d : Nat} (hD : DK h D) (n0 : jI h D 0 = (n : Int)) (n12 : n ≤ 12) (n3 : jI h D 3 = (ns : Int)) (ns6 : ns ≤ 6) :
    Ex MX2_named d [.inr D, .inl x, .inl c] h 0 0 (fun r g => (∃ z1 z2, has (jX h (D + 3)) (jX h (D + 4)) n x c z1 ∧ has (jX h (D + 5)) (jX h (D + 6)) ns x c z2 ∧ r = some (.inl (nmc z1 z2))) ∧ g = h) := by
  obtain ⟨e0, e1, e2, e3, e4, e5, e6, e7, e8, e9, e10, e11, e12, e13, e14, e15, e16, e17, e18, e19⟩ := hD
  refine Ex_of_V tX2_named (Nat.le_of_ble_eq_true rfl) ?_
  apply bX2_named_0
  -- the scopes
  have two : (∀ k, k < n → ¬ (jX h (D + 3) k = x ∧ jX h (D + 4) k = c)) → ∀ w i : Nat, i + w = ns → (∀ k, k < i → ¬ (jX h (D + 5) k = x ∧ jX h (D + 6) k = c)) → V MX2_named d 40 [some (.inr D), some (.inl x), some (.inl c), some (.inl (i : Int))] [] h 0 0 (fun r g => (∃ z1 z2, has (jX h (D + 3)) (jX h (D + 4)) n x c z1 ∧ has (jX h (D + 5)) (jX h (D + 6)) ns x c z2 ∧ r = some (.inl (nmc z1 z2))) ∧ g = h) := by
    intro hno w
    induction w with
    | zero =>
      intro i hi hs
      obtain rfl : i = ns := by omega
      apply bX2_named_40
      case q1 => intro _; exact ⟨⟨-9, -9, Or.inr ⟨hno, rfl⟩, Or.inr ⟨hs, rfl⟩, rfl⟩, rfl⟩
      all_goals (try rw [n3])
      all_goals first
        | exact e0
        | (rw [e5, e14]; done)
        | (rw [e6, e15]; done)
        | (intros; exact ⟨by omega, by omega⟩)
        | (intro z; omega)
        | (intros; rw [e6, e15]; done)
    | succ w ih =>
      intro i hi hs
      have nx : ¬ (jX h (D + 5) i = x ∧ jX h (D + 6) i = c) → V MX2_named d 40 [some (.inr D), some (.inl x), some (.inl c), some (.inl ((i : Int) + 1))] [] h 0 0 (fun r g => (∃ z1 z2, has (jX h (D + 3)) (jX h (D + 4)) n x c z1 ∧ has (jX h (D + 5)) (jX h (D + 6)) ns x c z2 ∧ r = some (.inl (nmc z1 z2))) ∧ g = h) := by
        intro y
        rw [show (i : Int) + 1 = ((i + 1 : Nat) : Int) by omega]
        refine ih (i + 1) (by omega) (fun k hk => ?_)
        by_cases z : k = i
        · rw [z]; exact y
        · exact hs k (by omega)
      apply bX2_named_40
      case q1 => rw [n3]; intro z; omega
      case k1 => rw [e5, Int.toNat_natCast]; intro _ y; exact nx (fun z => y z.1)
      case k2 => rw [e6, Int.toNat_natCast]; intro _ _ y; exact nx (fun z => y z.2)
      case q2 =>
        rw [e5, e6, Int.toNat_natCast]
        intro _ y1 y2
        refine ⟨⟨-9, i, Or.inr ⟨hno, rfl⟩, Or.inl ⟨i, by omega, y1, y2, rfl⟩, ?_⟩, rfl⟩
        unfold nmc
        rw [if_neg (by decide), if_pos (by omega)]
      all_goals (try rw [n3])
      all_goals first
        | exact e0
        | (rw [e5, e14]; done)
        | (rw [e6, e15]; done)
        | (intros; exact ⟨by omega, by omega⟩)
        | (intros; omega)
        | (intros; rw [e6, e15]; done)
        | (intros; rw [e5, e14]; refine Int.lt_of_le_of_lt (b := 5) ?_ (by decide); omega)
        | (intros; rw [e6, e15]; refine Int.lt_of_le_of_lt (b := 5) ?_ (by decide); omega)
  have one : ∀ w i : Nat, i + w = n → (∀ k, k < i → ¬ (jX h (D + 3) k = x ∧ jX h (D + 4) k = c)) → V MX2_named d 2 [some (.inr D), some (.inl x), some (.inl c), some (.inl (i : Int))] [] h 0 0 (fun r g => (∃ z1 z2, has (jX h (D + 3)) (jX h (D + 4)) n x c z1 ∧ has (jX h (D + 5)) (jX h (D + 6)) ns x c z2 ∧ r = some (.inl (nmc z1 z2))) ∧ g = h) := by
    intro w
    induction w with
    | zero =>
      intro i hi hs
      obtain rfl : i = n := by omega
      apply bX2_named_2
      case k1 => intro _; exact two hs ns 0 (by omega) (fun k hk => absurd hk (Nat.not_lt_zero _))
      all_goals (try rw [n0])
      all_goals first
        | exact e0
        | (rw [e3, e12]; done)
        | (rw [e4, e13]; done)
        | (intro z; omega)
        | (intros; rw [e4, e13]; done)
    | succ w ih =>
      intro i hi hs
      have nx : ¬ (jX h (D + 3) i = x ∧ jX h (D + 4) i = c) → V MX2_named d 2 [some (.inr D), some (.inl x), some (.inl c), some (.inl ((i : Int) + 1))] [] h 0 0 (fun r g => (∃ z1 z2, has (jX h (D + 3)) (jX h (D + 4)) n x c z1 ∧ has (jX h (D + 5)) (jX h (D + 6)) ns x c z2 ∧ r = some (.inl (nmc z1 z2))) ∧ g = h) := by
        intro y
        rw [show (i : Int) + 1 = ((i + 1 : Nat) : Int) by omega]
        refine ih (i + 1) (by omega) (fun k hk => ?_)
        by_cases z : k = i
        · rw [z]; exact y
        · exact hs k (by omega)
      have fin : ∀ z2, has (jX h (D + 5)) (jX h (D + 6)) ns x c z2 → jX h (D + 3) i = x → jX h (D + 4) i = c → (∃ z1 z2, has (jX h (D + 3)) (jX h (D + 4)) n x c z1 ∧ has (jX h (D + 5)) (jX h (D + 6)) ns x c z2 ∧ some (Sum.inl (i : Int)) = (some (.inl (nmc z1 z2)) : Option jA)) := by
        intro z2 hz2 y1 y2
        refine ⟨i, z2, Or.inl ⟨i, by omega, y1, y2, rfl⟩, hz2, ?_⟩
        unfold nmc
        rw [if_pos (by omega)]
      apply bX2_named_2
      case k1 => rw [n0]; intro z; omega
      case k2 => rw [e3, Int.toNat_natCast]; intro _ y; exact nx (fun z => y z.1)
      case k3 => rw [e4, Int.toNat_natCast]; intro _ _ y; exact nx (fun z => y z.2)
      case q1 =>
        rw [e3, e4, Int.toNat_natCast]
        intro _ y1 y2
        refine ⟨?_, rfl⟩
        by_cases z : ∃ k, k < ns ∧ jX h (D + 5) k = x ∧ jX h (D + 6) k = c
        · obtain ⟨k, z1, z2, z3⟩ := z
          exact fin k (Or.inl ⟨k, z1, z2, z3, rfl⟩) y1 y2
        · exact fin (-9) (Or.inr ⟨fun k hk y => z ⟨k, hk, y.1, y.2⟩, rfl⟩) y1 y2
      all_goals (try rw [n0])
      all_goals first
        | exact e0
        | (rw [e3, e12]; done)
        | (rw [e4, e13]; done)
        | (intros; exact ⟨by omega, by omega⟩)
        | (intros; omega)
        | (intros; rw [e4, e13]; done)
        | (intros; rw [e3, e12]; refine Int.lt_of_le_of_lt (b := 11) ?_ (by decide); omega)
        | (intros; rw [e4, e13]; refine Int.lt_of_le_of_lt (b := 11) ?_ (by decide); omega)
  exact one n 0 (by omega) (fun k hk => absurd hk (Nat.not_lt_zero _))
theorem eX9_nodeBy {d m : Nat} (hM : MK h) (hn : jI h 476 1 = (m : Int)) (n12 : m ≤ 12) :
    Ex MX9_nodeBy (d + 1) [.inr 476, .inl x, .inl c] h 0 0 (fun r g => (∃ z, r = some (.inl z) ∧ has (fun k => jX h 477 (6 * k + 3)) (fun k => jX h 477 (6 * k + 4)) m x c z) ∧ g = h) := by
  refine Ex_of_V tX9_nodeBy (Nat.le_of_ble_eq_true rfl) ?_
  apply bX9_nodeBy_0
  have key : ∀ w i : Nat, i + w = m → ∀ z : Int, ((∃ k : Nat, k < i ∧ (jX h 477 (6 * k + 3) = x ∧ jX h 477 (6 * k + 4) = c) ∧ z = (k : Int)) ∨ ((∀ k, k < i → ¬ (jX h 477 (6 * k + 3) = x ∧ jX h 477 (6 * k + 4) = c)) ∧ z = -9)) → V MX9_nodeBy (d + 1) 6 [some (.inr 476), some (.inl x), some (.inl c), some (.inl z), some (.inl (i : Int))] [] h 0 0 (fun r g => (∃ z, r = some (.inl z) ∧ has (fun k => jX h 477 (6 * k + 3)) (fun k => jX h 477 (6 * k + 4)) m x c z) ∧ g = h) := by
    intro w
    induction w with
    | zero =>
      intro i hi z hz
      obtain rfl : i = m := by omega
      apply bX9_nodeBy_6
      case q1 =>
        intro _
        refine ⟨⟨z, rfl, ?_⟩, rfl⟩
        rcases hz with ⟨k, k1, ⟨k2, k3⟩, k4⟩ | ⟨k1, k2⟩
        · exact Or.inl ⟨k, k1, k2, k3, k4⟩
        · exact Or.inr ⟨k1, k2⟩
      all_goals clear hz
      all_goals (try rw [hn])
      all_goals first
        | exact hM.x
        | (rw [hM.p0, hM.s477]; done)
        | (intros; exact ⟨by omega, by omega⟩)
        | (intros; omega)
        | (intro y; omega)
        | (intros; rw [hM.p0, hM.s477]; refine Int.lt_of_le_of_lt (b := 71) ?_ (by decide); omega)
    | succ w ih =>
      intro i hi z hz
      have e1 : (i : Int) + 1 = ((i + 1 : Nat) : Int) := by omega
      have e3 : jX h (jP h 476 0) ((6 * (i : Int) + 3).toNat) = jX h 477 (6 * i + 3) := by rw [hM.p0, show (6 * (i : Int) + 3).toNat = 6 * i + 3 by omega]
      have e4 : jX h (jP h 476 0) ((6 * (i : Int) + 4).toNat) = jX h 477 (6 * i + 4) := by rw [hM.p0, show (6 * (i : Int) + 4).toNat = 6 * i + 4 by omega]
      have old : ¬ (jX h 477 (6 * i + 3) = x ∧ jX h 477 (6 * i + 4) = c) → ((∃ k : Nat, k < i + 1 ∧ (jX h 477 (6 * k + 3) = x ∧ jX h 477 (6 * k + 4) = c) ∧ z = (k : Int)) ∨ ((∀ k, k < i + 1 → ¬ (jX h 477 (6 * k + 3) = x ∧ jX h 477 (6 * k + 4) = c)) ∧ z = -9)) := by
        intro y
        rcases hz with ⟨k, k1, k2, k3⟩ | ⟨k1, k2⟩
        · exact Or.inl ⟨k, by omega, k2, k3⟩
        · refine Or.inr ⟨fun k hk => ?_, k2⟩
          by_cases v : k = i
          · rw [v]; exact y
          · exact k1 k (by omega)
      apply bX9_nodeBy_6
      case q1 => rw [hn]; clear hz old; intro y; omega
      case k1 => rw [e3, e1]; intro _ y; exact ih (i + 1) (by omega) z (old (fun v => y v.1))
      case k2 => rw [e4, e1]; intro _ _ y; exact ih (i + 1) (by omega) z (old (fun v => y v.2))
      case k3 => rw [e3, e4, e1]; intro _ y1 y2; exact ih (i + 1) (by omega) i (Or.inl ⟨i, by omega, ⟨y1, y2⟩, rfl⟩)
      all_goals clear hz old
      all_goals (try rw [hn])
      all_goals first
        | exact hM.x
        | (rw [hM.p0, hM.s477]; done)
        | (intros; exact ⟨by omega, by omega⟩)
        | (intros; omega)
        | (intro y; omega)
        | (intros; rw [hM.p0, hM.s477]; refine Int.lt_of_le_of_lt (b := 71) ?_ (by decide); omega)
  exact key m 0 (by omega) (-9) (Or.inr ⟨fun k hk => absurd hk (Nat.not_lt_zero _), rfl⟩)
theorem eX9_scopeBy {d m : Nat} (hM : MK h) (hn : jI h 476 6 = (m : Int)) (n12 : m ≤ 6) :
    Ex MX9_scopeBy d [.inr 476, .inl x, .inl c] h 0 0 (fun r g => (∃ z, r = some (.inl z) ∧ has (jX h 478) (jX h 479) m x c z) ∧ g = h) := by
  refine Ex_of_V tX9_scopeBy (Nat.le_of_ble_eq_true rfl) ?_
  apply bX9_scopeBy_0
  have key : ∀ w i : Nat, i + w = m → ∀ z : Int, ((∃ k : Nat, k < i ∧ (jX h 478 k = x ∧ jX h 479 k = c) ∧ z = (k : Int)) ∨ ((∀ k, k < i → ¬ (jX h 478 k = x ∧ jX h 479 k = c)) ∧ z = -9)) → V MX9_scopeBy d 6 [some (.inr 476), some (.inl x), some (.inl c), some (.inl z), some (.inl (i : Int))] [] h 0 0 (fun r g => (∃ z, r = some (.inl z) ∧ has (jX h 478) (jX h 479) m x c z) ∧ g = h) := by
    intro w
    induction w with
    | zero =>
      intro i hi z hz
      obtain rfl : i = m := by omega
      apply bX9_scopeBy_6
      case q1 =>
        intro _
        refine ⟨⟨z, rfl, ?_⟩, rfl⟩
        rcases hz with ⟨k, k1, ⟨k2, k3⟩, k4⟩ | ⟨k1, k2⟩
        · exact Or.inl ⟨k, k1, k2, k3, k4⟩
        · exact Or.inr ⟨k1, k2⟩
      all_goals clear hz
      all_goals (try rw [hn])
      all_goals first
        | exact hM.x
        | (rw [hM.p4, hM.s478]; done)
        | (rw [hM.p5, hM.s479]; done)
        | (intros; exact ⟨by omega, by omega⟩)
        | (intros; omega)
        | (intro y; omega)
        | (intros; rw [hM.p4, hM.s478]; refine Int.lt_of_le_of_lt (b := 5) ?_ (by decide); omega)
        | (intros; rw [hM.p5, hM.s479]; refine Int.lt_of_le_of_lt (b := 5) ?_ (by decide); omega)
    | succ w ih =>
      intro i hi z hz
      have e1 : (i : Int) + 1 = ((i + 1 : Nat) : Int) := by omega
      have e3 : jX h (jP h 476 4) ((((i : Nat) : Int)).toNat) = jX h 478 i := by rw [hM.p4, Int.toNat_natCast]
      have e4 : jX h (jP h 476 5) ((((i : Nat) : Int)).toNat) = jX h 479 i := by rw [hM.p5, Int.toNat_natCast]
      have old : ¬ (jX h 478 i = x ∧ jX h 479 i = c) → ((∃ k : Nat, k < i + 1 ∧ (jX h 478 k = x ∧ jX h 479 k = c) ∧ z = (k : Int)) ∨ ((∀ k, k < i + 1 → ¬ (jX h 478 k = x ∧ jX h 479 k = c)) ∧ z = -9)) := by
        intro y
        rcases hz with ⟨k, k1, k2, k3⟩ | ⟨k1, k2⟩
        · exact Or.inl ⟨k, by omega, k2, k3⟩
        · refine Or.inr ⟨fun k hk => ?_, k2⟩
          by_cases v : k = i
          · rw [v]; exact y
          · exact k1 k (by omega)
      apply bX9_scopeBy_6
      case q1 => rw [hn]; clear hz old; intro y; omega
      case k1 => rw [e3, e1]; intro _ y; exact ih (i + 1) (by omega) z (old (fun v => y v.1))
      case k2 => rw [e4, e1]; intro _ _ y; exact ih (i + 1) (by omega) z (old (fun v => y v.2))
      case k3 => rw [e3, e4, e1]; intro _ y1 y2; exact ih (i + 1) (by omega) i (Or.inl ⟨i, by omega, ⟨y1, y2⟩, rfl⟩)
      all_goals clear hz old
      all_goals (try rw [hn])
      all_goals first
        | exact hM.x
        | (rw [hM.p4, hM.s478]; done)
        | (rw [hM.p5, hM.s479]; done)
        | (intros; exact ⟨by omega, by omega⟩)
        | (intros; omega)
        | (intro y; omega)
        | (intros; rw [hM.p4, hM.s478]; refine Int.lt_of_le_of_lt (b := 5) ?_ (by decide); omega)
        | (intros; rw [hM.p5, hM.s479]; refine Int.lt_of_le_of_lt (b := 5) ?_ (by decide); omega)
  exact key m 0 (by omega) (-9) (Or.inr ⟨fun k hk => absurd hk (Nat.not_lt_zero _), rfl⟩)
end MJ
