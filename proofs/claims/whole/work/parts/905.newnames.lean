/-! ===== names of what is told ===== -/
section MJ2
variable {h g : jH} {x c : Int}
theorem eX9_newNodeBy {d m : Nat} (hM : MK h) (hn : jI h 476 22 = (m : Int)) (n12 : m ≤ 12) :
    Ex MX9_newNodeBy d [.inr 476, .inl x, .inl c] h 0 0 (fun r g => (∃ z, r = some (.inl z) ∧ has (fun k => jX h 487 (6 * k + 3)) (fun k => jX h 487 (6 * k + 4)) m x c z) ∧ g = h) := by
  refine Ex_of_V tX9_newNodeBy (Nat.le_of_ble_eq_true rfl) ?_
  apply bX9_newNodeBy_0
  have key : ∀ w i : Nat, i + w = m → ∀ z : Int, ((∃ k : Nat, k < i ∧ (jX h 487 (6 * k + 3) = x ∧ jX h 487 (6 * k + 4) = c) ∧ z = (k : Int)) ∨ ((∀ k, k < i → ¬ (jX h 487 (6 * k + 3) = x ∧ jX h 487 (6 * k + 4) = c)) ∧ z = -9)) → V MX9_newNodeBy d 6 [some (.inr 476), some (.inl x), some (.inl c), some (.inl z), some (.inl (i : Int))] [] h 0 0 (fun r g => (∃ z, r = some (.inl z) ∧ has (fun k => jX h 487 (6 * k + 3)) (fun k => jX h 487 (6 * k + 4)) m x c z) ∧ g = h) := by
    intro w
    induction w with
    | zero =>
      intro i hi z hz
      obtain rfl : i = m := by omega
      apply bX9_newNodeBy_6
      case q1 =>
        intro _
        refine ⟨⟨z, rfl, ?_⟩, rfl⟩
        rcases hz with ⟨k, k1, ⟨k2, k3⟩, k4⟩ | ⟨k1, k2⟩
        · exact Or.inl ⟨k, k1, k2, k3, k4⟩
        · exact Or.inr ⟨k1, k2⟩
      all_goals clear hz
      all_goals (try rw [hn])
      all_goals first
        | exact hM.x
        | (rw [hM.p21, hM.s487]; done)
        | (intros; exact ⟨by omega, by omega⟩)
        | (intros; omega)
        | (intro y; omega)
        | (intros; rw [hM.p21, hM.s487]; refine Int.lt_of_le_of_lt (b := 71) ?_ (by decide); omega)
    | succ w ih =>
      intro i hi z hz
      have e1 : (i : Int) + 1 = ((i + 1 : Nat) : Int) := by omega
      have e3 : jX h (jP h 476 21) ((6 * (i : Int) + 3).toNat) = jX h 487 (6 * i + 3) := by rw [hM.p21, show (6 * (i : Int) + 3).toNat = 6 * i + 3 by omega]
      have e4 : jX h (jP h 476 21) ((6 * (i : Int) + 4).toNat) = jX h 487 (6 * i + 4) := by rw [hM.p21, show (6 * (i : Int) + 4).toNat = 6 * i + 4 by omega]
      have old : ¬ (jX h 487 (6 * i + 3) = x ∧ jX h 487 (6 * i + 4) = c) → ((∃ k : Nat, k < i + 1 ∧ (jX h 487 (6 * k + 3) = x ∧ jX h 487 (6 * k + 4) = c) ∧ z = (k : Int)) ∨ ((∀ k, k < i + 1 → ¬ (jX h 487 (6 * k + 3) = x ∧ jX h 487 (6 * k + 4) = c)) ∧ z = -9)) := by
        intro y
        rcases hz with ⟨k, k1, k2, k3⟩ | ⟨k1, k2⟩
        · exact Or.inl ⟨k, by omega, k2, k3⟩
        · refine Or.inr ⟨fun k hk => ?_, k2⟩
          by_cases v : k = i
          · rw [v]; exact y
          · exact k1 k (by omega)
      apply bX9_newNodeBy_6
      case q1 => rw [hn]; clear hz old; intro y; omega
      case k1 => rw [e3, e1]; intro _ y; exact ih (i + 1) (by omega) z (old (fun v => y v.1))
      case k2 => rw [e4, e1]; intro _ _ y; exact ih (i + 1) (by omega) z (old (fun v => y v.2))
      case k3 => rw [e3, e4, e1]; intro _ y1 y2; exact ih (i + 1) (by omega) i (Or.inl ⟨i, by omega, ⟨y1, y2⟩, rfl⟩)
      all_goals clear hz old
      all_goals (try rw [hn])
      all_goals first
        | exact hM.x
        | (rw [hM.p21, hM.s487]; done)
        | (intros; exact ⟨by omega, by omega⟩)
        | (intros; omega)
        | (intro y; omega)
        | (intros; rw [hM.p21, hM.s487]; refine Int.lt_of_le_of_lt (b := 71) ?_ (by decide); omega)
  exact key m 0 (by omega) (-9) (Or.inr ⟨fun k hk => absurd hk (Nat.not_lt_zero _), rfl⟩)
theorem eX9_newScopeBy {d m : Nat} (hM : MK h) (hn : jI h 476 27 = (m : Int)) (n12 : m ≤ 6) :
    Ex MX9_newScopeBy d [.inr 476, .inl x, .inl c] h 0 0 (fun r g => (∃ z, r = some (.inl z) ∧ has (jX h 488) (jX h 489) m x c z) ∧ g = h) := by
  refine Ex_of_V tX9_newScopeBy (Nat.le_of_ble_eq_true rfl) ?_
  apply bX9_newScopeBy_0
  have key : ∀ w i : Nat, i + w = m → ∀ z : Int, ((∃ k : Nat, k < i ∧ (jX h 488 k = x ∧ jX h 489 k = c) ∧ z = (k : Int)) ∨ ((∀ k, k < i → ¬ (jX h 488 k = x ∧ jX h 489 k = c)) ∧ z = -9)) → V MX9_newScopeBy d 6 [some (.inr 476), some (.inl x), some (.inl c), some (.inl z), some (.inl (i : Int))] [] h 0 0 (fun r g => (∃ z, r = some (.inl z) ∧ has (jX h 488) (jX h 489) m x c z) ∧ g = h) := by
    intro w
    induction w with
    | zero =>
      intro i hi z hz
      obtain rfl : i = m := by omega
      apply bX9_newScopeBy_6
      case q1 =>
        intro _
        refine ⟨⟨z, rfl, ?_⟩, rfl⟩
        rcases hz with ⟨k, k1, ⟨k2, k3⟩, k4⟩ | ⟨k1, k2⟩
        · exact Or.inl ⟨k, k1, k2, k3, k4⟩
        · exact Or.inr ⟨k1, k2⟩
      all_goals clear hz
      all_goals (try rw [hn])
      all_goals first
        | exact hM.x
        | (rw [hM.p25, hM.s488]; done)
        | (rw [hM.p26, hM.s489]; done)
        | (intros; exact ⟨by omega, by omega⟩)
        | (intros; omega)
        | (intro y; omega)
        | (intros; rw [hM.p25, hM.s488]; refine Int.lt_of_le_of_lt (b := 5) ?_ (by decide); omega)
        | (intros; rw [hM.p26, hM.s489]; refine Int.lt_of_le_of_lt (b := 5) ?_ (by decide); omega)
    | succ w ih =>
      intro i hi z hz
      have e1 : (i : Int) + 1 = ((i + 1 : Nat) : Int) := by omega
      have e3 : jX h (jP h 476 25) ((((i : Nat) : Int)).toNat) = jX h 488 i := by rw [hM.p25, Int.toNat_natCast]
      have e4 : jX h (jP h 476 26) ((((i : Nat) : Int)).toNat) = jX h 489 i := by rw [hM.p26, Int.toNat_natCast]
      have old : ¬ (jX h 488 i = x ∧ jX h 489 i = c) → ((∃ k : Nat, k < i + 1 ∧ (jX h 488 k = x ∧ jX h 489 k = c) ∧ z = (k : Int)) ∨ ((∀ k, k < i + 1 → ¬ (jX h 488 k = x ∧ jX h 489 k = c)) ∧ z = -9)) := by
        intro y
        rcases hz with ⟨k, k1, k2, k3⟩ | ⟨k1, k2⟩
        · exact Or.inl ⟨k, by omega, k2, k3⟩
        · refine Or.inr ⟨fun k hk => ?_, k2⟩
          by_cases v : k = i
          · rw [v]; exact y
          · exact k1 k (by omega)
      apply bX9_newScopeBy_6
      case q1 => rw [hn]; clear hz old; intro y; omega
      case k1 => rw [e3, e1]; intro _ y; exact ih (i + 1) (by omega) z (old (fun v => y v.1))
      case k2 => rw [e4, e1]; intro _ _ y; exact ih (i + 1) (by omega) z (old (fun v => y v.2))
      case k3 => rw [e3, e4, e1]; intro _ y1 y2; exact ih (i + 1) (by omega) i (Or.inl ⟨i, by omega, ⟨y1, y2⟩, rfl⟩)
      all_goals clear hz old
      all_goals (try rw [hn])
      all_goals first
        | exact hM.x
        | (rw [hM.p25, hM.s488]; done)
        | (rw [hM.p26, hM.s489]; done)
        | (intros; exact ⟨by omega, by omega⟩)
        | (intros; omega)
        | (intro y; omega)
        | (intros; rw [hM.p25, hM.s488]; refine Int.lt_of_le_of_lt (b := 5) ?_ (by decide); omega)
        | (intros; rw [hM.p26, hM.s489]; refine Int.lt_of_le_of_lt (b := 5) ?_ (by decide); omega)
  exact key m 0 (by omega) (-9) (Or.inr ⟨fun k hk => absurd hk (Nat.not_lt_zero _), rfl⟩)
end MJ2
