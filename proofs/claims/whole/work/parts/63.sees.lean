/-! ===== both sides: sees ===== -/
section LJ
variable {h g : jH} {node wi sn code cm s past : Nat → Int} {n nw nd ns u D : Nat} {K : Int}
theorem IX.o8 (hI : IX h) : jS h 327 = (16, 6) ∧ jS h 328 = (16, 6) := ⟨hI.2.1.2.2.2.2.2.2.2.1, hI.2.1.2.2.2.2.2.2.2.2.1⟩
theorem pair_sees {d d' : Nat} {t v : Int} (hI : IE h K) : Ex MX8_sees (d + 1) [.inr 2, .inl t, .inl v] h 0 0 (PR MX9_sees (d' + 1) [.inr 476, .inl t, .inl v] K) := by
  obtain ⟨D, node, n, nw, nd, wi, sn, ns, code, cm, s, past, u, hI⟩ := hI
  have hx := hI.x
  have hM := hI.mk
  obtain ⟨t1, t2⟩ := hx.o8
  obtain ⟨c, c1, c2, c3, c4⟩ : IT h := hI.2.2.2.2.2.2.2
  obtain ⟨o, o1, o2, o3, o4⟩ : IO h := hI.2.2.2.2.2.2.1
  have badt : ¬ (0 ≤ t ∧ t ≤ 999) → PR MX9_sees (d' + 1) [.inr 476, .inl t, .inl v] K (some (.inl (-1))) h := by
    intro q
    refine pr_same hI (Ex_of_V tX9_sees (Nat.le_of_ble_eq_true rfl) ?_)
    apply bX9_sees_0
    case q1 => intro _; exact ⟨rfl, rfl⟩
    all_goals first
      | exact hM.x
      | (rw [hM.p48, hM.s503]; done)
      | (intro z; exact absurd z q)
  have badv : (0 ≤ t ∧ t ≤ 999) → ¬ (v = -7 ∨ (0 ≤ v ∧ v ≤ 255)) → PR MX9_sees (d' + 1) [.inr 476, .inl t, .inl v] K (some (.inl (-1))) h := by
    intro q0 q
    refine pr_same hI (Ex_of_V tX9_sees (Nat.le_of_ble_eq_true rfl) ?_)
    apply bX9_sees_0
    case q6 => intro _ _ _; exact ⟨rfl, rfl⟩
    case q1 => intro z; exact absurd q0 z
    all_goals first
      | exact hM.x
      | (rw [hM.p48, hM.s503]; done)
      | (intro _ z; exact absurd (Or.inr z) q)
      | (intro _ _ z; exact absurd (Or.inl z) q)
  have full : (0 ≤ t ∧ t ≤ 999) → (v = -7 ∨ (0 ≤ v ∧ v ≤ 255)) → (o : Int) = 6 → PR MX9_sees (d' + 1) [.inr 476, .inl t, .inl v] K (some (.inl (-3))) h := by
    intro q0 q q2
    refine pr_same hI (Ex_of_V tX9_sees (Nat.le_of_ble_eq_true rfl) ?_)
    apply bX9_sees_0
    case q3 => intro _ _ _; exact ⟨rfl, rfl⟩
    case q5 => intro _ _ _ _; exact ⟨rfl, rfl⟩
    case q1 => intro z; exact absurd q0 z
    case q6 => intro _ z z2; exact (q.elim z2 z).elim
    all_goals first
      | exact hM.x
      | (rw [hM.p48, hM.s503]; done)
      | (rw [o2]; intro _ _ z; exact absurd q2 z)
      | (rw [o2]; intro _ _ _ z; exact absurd q2 z)
  refine Ex_of_V tX8_sees (Nat.le_of_ble_eq_true rfl) ?_
  apply bX8_sees_0
  case q1 => intro q; exact badt (by omega)
  case q2 => intro _ q; exact badt (by omega)
  case q5 => intro q q2 q3; exact badv (by omega) q3
  case q4 => rw [o1]; intro q q2 q3 q4; exact full (by omega) q3 (by omega)
  case r1 => rw [o1]; intros; exact ⟨by omega, by omega⟩
  case q3 =>
    rw [o1]
    intro q q2 q3 q4
    rw [hx.p8, hx.p9, Int.toNat_natCast]
    refine ⟨(o : Int) + 1, rfl, hM.x, Ex_of_V tX9_sees (Nat.le_of_ble_eq_true rfl) ?_⟩
    have f1 : FP mP h (jsI (jsX (jsX h 327 o t) 328 o v) 2 10 ((o : Int) + 1)) := ((FP.sX (by unfold mP; omega)).trans (FP.sX (by unfold mP; omega))).trans (FP.sI (by unfold mP; omega))
    have hM1 : MK (jsI (jsX (jsX h 327 o t) 328 o v) 2 10 ((o : Int) + 1)) := hM.fr rfl rfl
    have o2' : jI (jsI (jsX (jsX h 327 o t) 328 o v) 2 10 ((o : Int) + 1)) 476 49 = (o : Int) := by rw [jI_sI, if_neg (by omega)]; exact o2
    have e327 : ∀ i, jX (jsI (jsX (jsX (jsI (jsX (jsX h 327 o t) 328 o v) 2 10 ((o : Int) + 1)) 503 (2 * o) t) 503 (2 * o + 1) v) 476 49 ((o : Int) + 1)) 327 i = if i = o then t else jX h 327 i := fun i => by simp [jX_sI, jX_sX]
    have e328 : ∀ i, jX (jsI (jsX (jsX (jsI (jsX (jsX h 327 o t) 328 o v) 2 10 ((o : Int) + 1)) 503 (2 * o) t) 503 (2 * o + 1) v) 476 49 ((o : Int) + 1)) 328 i = if i = o then v else jX h 328 i := fun i => by simp [jX_sI, jX_sX]
    have e503 : ∀ i, jX (jsI (jsX (jsX (jsI (jsX (jsX h 327 o t) 328 o v) 2 10 ((o : Int) + 1)) 503 (2 * o) t) 503 (2 * o + 1) v) 476 49 ((o : Int) + 1)) 503 i = if i = 2 * o + 1 then v else if i = 2 * o then t else jX h 503 i := fun i => by simp [jX_sI, jX_sX]
    have e4 : ∀ i, jX (jsI (jsX (jsX (jsI (jsX (jsX h 327 o t) 328 o v) 2 10 ((o : Int) + 1)) 503 (2 * o) t) 503 (2 * o + 1) v) 476 49 ((o : Int) + 1)) 4 i = jX h 4 i := fun i => by simp [jX_sI, jX_sX]
    have e486 : ∀ i, jX (jsI (jsX (jsX (jsI (jsX (jsX h 327 o t) 328 o v) 2 10 ((o : Int) + 1)) 503 (2 * o) t) 503 (2 * o + 1) v) 476 49 ((o : Int) + 1)) 486 i = jX h 486 i := fun i => by simp [jX_sI, jX_sX]
    have done : IE (jsI (jsX (jsX (jsI (jsX (jsX h 327 o t) 328 o v) 2 10 ((o : Int) + 1)) 503 (2 * o) t) 503 (2 * o + 1) v) 476 49 ((o : Int) + 1)) (K + 1) := by
      refine (hI.mod (f1.trans (((FP.sX (by unfold mP; omega)).trans (FP.sX (by unfold mP; omega))).trans (FP.sI (by unfold mP; omega)))) (fun k k1 k2 => ?_) ?_ ?_).ie
      · rw [jI_sI, if_neg (by omega), jI_sX, jI_sX, jI_sI, if_neg (by omega)]
        rfl
      · refine ⟨o + 1, by rw [jI_sI, if_neg (by omega), jI_sX, jI_sX, jI_sI, if_pos ⟨rfl, rfl⟩]; omega, by rw [jI_sI, if_pos ⟨rfl, rfl⟩]; omega, by omega, fun i hi => ?_⟩
        rw [e327, e328, e503, e503]
        by_cases y : i = o
        · subst y
          rw [if_pos rfl, if_pos rfl, if_neg (by omega), if_pos rfl, if_pos rfl]
          exact ⟨rfl, rfl, by omega, by omega⟩
        · rw [if_neg y, if_neg y, if_neg (by omega), if_neg (by omega), if_neg (by omega), if_neg (by omega)]
          exact o4 i (by omega)
      · refine ⟨c, by rw [jI_sI, if_neg (by omega), jI_sX, jI_sX, jI_sI, if_neg (by omega)]; exact c1, by rw [jI_sI, if_neg (by omega), jI_sX, jI_sX, jI_sI, if_neg (by omega)]; exact c2, c3, fun i hi => ?_⟩
        rw [e4, e486]
        exact c4 i hi
    apply bX9_sees_0
    case q2 =>
      intro _ _ _
      rw [hM1.p48, o2', show (2 * (o : Int)).toNat = 2 * o by omega, show (2 * (o : Int) + 1).toNat = 2 * o + 1 by omega]
      exact ⟨rfl, done⟩
    case q4 =>
      intro _ _ _ _
      rw [hM1.p48, o2', show (2 * (o : Int)).toNat = 2 * o by omega, show (2 * (o : Int) + 1).toNat = 2 * o + 1 by omega]
      exact ⟨rfl, done⟩
    case q1 => intro z; omega
    case q3 => rw [o2']; intro _ _ z; omega
    case q5 => rw [o2']; intro _ _ _ z; omega
    case q6 => intro _ z z2; exact (q3.elim z2 z).elim
    all_goals first
      | exact hM1.x
      | (rw [hM1.p48, hM1.s503]; done)
      | (rw [o2']; intros; exact ⟨by omega, by omega⟩)
      | (rw [o2']; intros; omega)
      | (rw [o2']; intros; rw [hM1.p48, hM1.s503]; refine Int.lt_of_le_of_lt (b := 11) ?_ (by decide); omega)
  all_goals first
    | exact hx.s2
    | (rw [hx.p8, t1]; done)
    | (rw [hx.p9, t2]; done)
    | (rw [o1]; intros; omega)
    | (rw [o1]; intros; rw [hx.p8, t1]; show (o : Int) < 6; omega)
    | (rw [o1]; intros; rw [hx.p9, t2]; show (o : Int) < 6; omega)
end LJ
