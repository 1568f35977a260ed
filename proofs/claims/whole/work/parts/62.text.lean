/-! ===== both sides: type, clear, sees, forget ===== -/
section LI
variable {h g : jH} {node wi sn code cm s past : Nat → Int} {n nw nd ns u D : Nat} {K : Int}
def mP (a : Nat) : Prop := a = 2 ∨ a = 3 ∨ a = 4 ∨ a = 327 ∨ a = 328 ∨ a = 476 ∨ a = 486 ∨ a = 503
theorem IV.mod (hI : IV h D node n nw nd wi sn ns code cm s past u K) (f : FP mP h g) (h2 : ∀ k, k ≠ 15 → k ≠ 49 → jI g 476 k = jI h 476 k) (hO : IO g) (hT : IT g) : IV g D node n nw nd wi sn ns code cm s past u K := by
  obtain ⟨v1, ⟨v2, v3, v4, v5⟩, ⟨v6, v7, v8⟩, ⟨v9, v10, v11⟩, v12, v13, v14, v15⟩ := hI
  have e : ∀ a, ¬ mP a → jX g a = jX h a := fun a ha => (f.2.2.2 a ha).2.1
  have hsi := v8.2.2.2.2.2.2.1
  obtain ⟨x1, x2, x3, x4, x5, x6, x7, x8, x9, x10, x11, x12, x13, x14, x15, x16, x17, x18⟩ := id v1
  refine ⟨v1.fp f (fun a ha => by unfold mP; omega), ⟨by rw [f.1]; exact v2, v3.fp f v5.1 (fun a h2 h3 => by unfold mP; omega), ?_, v5⟩, ⟨v6.fp x14 hsi f (fun a h2 h3 => by unfold mP; omega), by rw [e 482 (by unfold mP; omega)]; exact v7, v8⟩, ⟨v9.fp x13 f (fun a h2 h3 => by unfold mP; omega), by rw [e 483 (by unfold mP; omega)]; exact v10, by rw [h2 11 (by omega) (by omega)]; exact v11⟩, ?_, ?_, hO, hT⟩
  · obtain ⟨m1, m2, m3, m4, m5⟩ := v4
    refine ⟨by rw [h2 1 (by omega) (by omega)]; exact m1, by rw [h2 2 (by omega) (by omega)]; exact m2, by rw [h2 3 (by omega) (by omega)]; exact m3, by rw [h2 6 (by omega) (by omega)]; exact m4, ?_⟩
    rw [e 477 (by unfold mP; omega), e 478 (by unfold mP; omega), e 479 (by unfold mP; omega), e 480 (by unfold mP; omega), e 481 (by unfold mP; omega)]
    exact m5
  · obtain ⟨y1, y2, y3⟩ := v12
    unfold IK
    rw [e 326 (by unfold mP; omega), e 485 (by unfold mP; omega), e 484 (by unfold mP; omega)]
    exact ⟨y1, y2, fun z => ⟨(y3 z).1.fp x15 (y3 z).2.2.2.2.2.2.2.1 f (fun a h2 h3 => by unfold mP; omega), (y3 z).2⟩⟩
  · obtain ⟨y1, y2, y3⟩ := v13
    unfold IK
    rw [e 326 (by unfold mP; omega), e 485 (by unfold mP; omega), e 484 (by unfold mP; omega)]
    exact ⟨y1, y2, fun z => ⟨(y3 z).1.fp x16 (y3 z).2.2.2.2.2.2.2.1 f (fun a h2 h3 => by unfold mP; omega), (y3 z).2⟩⟩
theorem FP.sI {P : Nat → Prop} {a k : Nat} {v : Int} (ha : P a) : FP P h (jsI h a k v) :=
  ⟨rfl, rfl, rfl, fun b hb => ⟨funext fun j => by rw [jI_sI, if_neg (show ¬ (b = a ∧ j = k) from fun z => hb (by rw [z.1]; exact ha))], rfl, rfl⟩⟩
theorem FP.sX {P : Nat → Prop} {a k : Nat} {v : Int} (ha : P a) : FP P h (jsX h a k v) :=
  ⟨rfl, rfl, rfl, fun b hb => ⟨rfl, funext fun j => by rw [jX_sX, if_neg (show ¬ (b = a ∧ j = k) from fun z => hb (by rw [z.1]; exact ha))], rfl⟩⟩
theorem IX.t3 (hI : IX h) : (jS h 3).1 = 7 ∧ jP h 3 0 = 4 ∧ jS h 4 = (16, 160) := ⟨hI.2.1.1, hI.2.1.2.1, hI.2.1.2.2.1⟩
/-- an answer of the second side that leaves all as it is -/
theorem pr_same {M9 : jM} {d9 : Nat} {a9 : List jA} {z : Int} (hI : IV h D node n nw nd wi sn ns code cm s past u K) (h9 : Ex M9 d9 a9 h 0 0 (fun v g => v = some (.inl z) ∧ g = h)) : PR M9 d9 a9 K (some (.inl z)) h :=
  ⟨z, rfl, hI.mk.x, Ex.mono h9 (fun v g ⟨q1, q2⟩ => ⟨q1, by subst q2; exact hI.ie⟩)⟩
theorem pair_type {d d' : Nat} {x : Int} (hI : IE h K) : Ex MX8_type (d + 1) [.inr 2, .inl x] h 0 0 (PR MX9_type (d' + 1) [.inr 476, .inl x] K) := by
  obtain ⟨D, node, n, nw, nd, wi, sn, ns, code, cm, s, past, u, hI⟩ := hI
  have hx := hI.x
  have hM := hI.mk
  obtain ⟨t1, t2, t3⟩ := hx.t3
  obtain ⟨c, c1, c2, c3, c4⟩ : IT h := hI.2.2.2.2.2.2.2
  have bad : ¬ (0 ≤ x ∧ x ≤ 255) → PR MX9_type (d' + 1) [.inr 476, .inl x] K (some (.inl (-1))) h := by
    intro q
    refine pr_same hI (Ex_of_V tX9_type (Nat.le_of_ble_eq_true rfl) ?_)
    apply bX9_type_0
    case q3 => intro _; exact ⟨rfl, rfl⟩
    all_goals first
      | exact hM.x
      | (rw [hM.p14, hM.s486]; done)
      | (intro z; exact absurd z q)
  refine Ex_of_V tX8_type (Nat.le_of_ble_eq_true rfl) ?_
  apply bX8_type_0
  case q1 => intro q; exact bad (by omega)
  case q3 => intro _ q; exact bad (by omega)
  case q2 =>
    rw [hx.p0, c1]
    intro q q2 q3
    refine pr_same hI (Ex_of_V tX9_type (Nat.le_of_ble_eq_true rfl) ?_)
    apply bX9_type_0
    case q2 => intro _ _; exact ⟨rfl, rfl⟩
    case q3 => intro z; omega
    all_goals first
      | exact hM.x
      | (rw [hM.p14, hM.s486]; done)
      | (rw [c2]; intro _ z; omega)
  case e1 =>
    rw [hx.p0, c1]
    intro q q2 q3
    refine Ex_of_V tX7_add (Nat.le_of_ble_eq_true rfl) ?_
    apply bX7_add_0
    case q1 => rw [t2, t3, c1]; intro z; exact absurd (show (160 : Int) ≤ (c : Int) from z) (by omega)
    case r1 => rw [c1]; intro _; exact ⟨by omega, by omega⟩
    case q2 =>
      intro _
      rw [t2, c1, Int.toNat_natCast]
      -- behind the class's call
      have f1 : FP mP h (jsI (jsX h 4 c x) 3 1 ((c : Int) + 1)) := (FP.sX (by unfold mP; omega)).trans (FP.sI (by unfold mP; omega))
      apply bX8_type_37
      case s1 => exact hx.s2
      case s2 => show (jS h (jP h 2 0)).1 = 7; rw [hx.p0]; exact t1
      case q1 =>
        refine ⟨(c : Int) + 1, ?_, hM.x, ?_⟩
        · show some (Sum.inl (jI (jsI (jsX h 4 c x) 3 1 ((c : Int) + 1)) (jP h 2 0) 1)) = _
          rw [hx.p0, jI_sI, if_pos ⟨rfl, rfl⟩]
        · refine Ex_of_V tX9_type (Nat.le_of_ble_eq_true rfl) ?_
          have hM1 : MK (jsI (jsX h 4 c x) 3 1 ((c : Int) + 1)) := hM.fr rfl rfl
          have c2' : jI (jsI (jsX h 4 c x) 3 1 ((c : Int) + 1)) 476 15 = (c : Int) := by rw [jI_sI, if_neg (by omega)]; exact c2
          apply bX9_type_0
          case q1 =>
            intro _ _
            rw [hM1.p14, c2', Int.toNat_natCast]
            refine ⟨rfl, (hI.mod (f1.trans ((FP.sX (by unfold mP; omega)).trans (FP.sI (by unfold mP; omega)))) (fun k k1 k2 => ?_) ?_ ?_).ie⟩
            · rw [jI_sI, if_neg (by omega), jI_sX, jI_sI, if_neg (by omega)]
              rfl
            · obtain ⟨o, o1, o2, o3, o4⟩ : IO h := hI.2.2.2.2.2.2.1
              refine ⟨o, by rw [jI_sI, if_neg (by omega), jI_sX, jI_sI, if_neg (by omega)]; exact o1, by rw [jI_sI, if_neg (by omega), jI_sX, jI_sI, if_neg (by omega)]; exact o2, o3, fun i hi => ?_⟩
              simp only [jX_sI, jX_sX]
              rw [if_neg (by omega), if_neg (by omega), if_neg (by omega), if_neg (by omega), if_neg (by omega), if_neg (by omega), if_neg (by omega), if_neg (by omega)]
              exact o4 i hi
            · refine ⟨c + 1, by rw [jI_sI, if_neg (by omega), jI_sX, jI_sI, if_pos ⟨rfl, rfl⟩]; omega, by rw [jI_sI, if_pos ⟨rfl, rfl⟩]; omega, by omega, fun i hi => ?_⟩
              simp only [jX_sI, jX_sX]
              by_cases y : i = c
              · subst y
                rw [if_neg (by omega), if_pos (by simp), if_pos (by simp)]
                exact ⟨rfl, by omega, by omega⟩
              · rw [if_neg (by omega), if_neg (by omega), if_neg (by omega), if_neg (by omega)]
                exact c4 i (by omega)
          all_goals first
            | exact hM1.x
            | (rw [hM1.p14, hM1.s486]; done)
            | (rw [c2']; intros; exact ⟨by omega, by omega⟩)
            | (intro z; omega)
            | (rw [c2']; intros; omega)
            | (rw [c2']; intros; rw [hM1.p14, hM1.s486]; refine Int.lt_of_le_of_lt (b := 159) ?_ (by decide); omega)
    all_goals first
      | exact t1
      | (rw [t2, t3]; done)
      | (rw [c1]; intros; omega)
      | (rw [c1]; intros; rw [t2, t3]; show (c : Int) < 160; omega)
  all_goals first
    | exact hx.s2
    | (rw [hx.p0]; exact t1)
theorem pair_clear {d d' : Nat} (hI : IE h K) : Ex MX8_clear (d + 1) [.inr 2] h 0 0 (PR MX9_clear d' [.inr 476] K) := by
  obtain ⟨D, node, n, nw, nd, wi, sn, ns, code, cm, s, past, u, hI⟩ := hI
  have hx := hI.x
  have hM := hI.mk
  obtain ⟨t1, t2, t3⟩ := hx.t3
  obtain ⟨c, c1, c2, c3, c4⟩ : IT h := hI.2.2.2.2.2.2.2
  refine Ex_of_V tX8_clear (Nat.le_of_ble_eq_true rfl) ?_
  apply bX8_clear_0
  case s1 => exact hx.s2
  case s2 => rw [hx.p0]; exact t1
  case e1 =>
    rw [hx.p0, c1]
    refine Ex_of_V tX7_empty (Nat.le_of_ble_eq_true rfl) ?_
    apply bX7_empty_0
    case s1 => exact t1
    case q1 =>
      apply bX8_clear_15
      refine ⟨(c : Int), rfl, hM.x, Ex_of_V tX9_clear (Nat.le_of_ble_eq_true rfl) ?_⟩
      have f1 : FP mP h (jsI h 3 1 0) := FP.sI (by unfold mP; omega)
      apply bX9_clear_0
      case s1 => exact hM.x
      case q1 =>
        refine ⟨by rw [jI_sI, if_neg (by omega), c2], (hI.mod (f1.trans (FP.sI (by unfold mP; omega))) (fun k k1 k2 => by rw [jI_sI, if_neg (by omega), jI_sI, if_neg (by omega)]) ?_ ?_).ie⟩
        · obtain ⟨o, o1, o2, o3, o4⟩ : IO h := hI.2.2.2.2.2.2.1
          exact ⟨o, by rw [jI_sI, if_neg (by omega), jI_sI, if_neg (by omega)]; exact o1, by rw [jI_sI, if_neg (by omega), jI_sI, if_neg (by omega)]; exact o2, o3, o4⟩
        · exact ⟨0, by rw [jI_sI, if_neg (by omega), jI_sI, if_pos ⟨rfl, rfl⟩]; rfl, by rw [jI_sI, if_pos ⟨rfl, rfl⟩]; rfl, by omega, fun i hi => absurd hi (Nat.not_lt_zero _)⟩
theorem pair_forget {d d' : Nat} (hI : IE h K) : Ex MX8_forget d [.inr 2] h 0 0 (PR MX9_forget d' [.inr 476] K) := by
  obtain ⟨D, node, n, nw, nd, wi, sn, ns, code, cm, s, past, u, hI⟩ := hI
  have hx := hI.x
  have hM := hI.mk
  obtain ⟨c, c1, c2, c3, c4⟩ : IT h := hI.2.2.2.2.2.2.2
  obtain ⟨o, o1, o2, o3, o4⟩ : IO h := hI.2.2.2.2.2.2.1
  refine Ex_of_V tX8_forget (Nat.le_of_ble_eq_true rfl) ?_
  apply bX8_forget_0
  case s1 => exact hx.s2
  case q1 =>
    rw [o1]
    refine ⟨(o : Int), rfl, hM.x, Ex_of_V tX9_forget (Nat.le_of_ble_eq_true rfl) ?_⟩
    have f1 : FP mP h (jsI h 2 10 0) := FP.sI (by unfold mP; omega)
    apply bX9_forget_0
    case s1 => exact hM.x
    case q1 =>
      refine ⟨by rw [jI_sI, if_neg (by omega), o2], (hI.mod (f1.trans (FP.sI (by unfold mP; omega))) (fun k k1 k2 => by rw [jI_sI, if_neg (by omega), jI_sI, if_neg (by omega)]) ?_ ?_).ie⟩
      · exact ⟨0, by rw [jI_sI, if_neg (by omega), jI_sI, if_pos ⟨rfl, rfl⟩]; rfl, by rw [jI_sI, if_pos ⟨rfl, rfl⟩]; rfl, by omega, fun i hi => absurd hi (Nat.not_lt_zero _)⟩
      · exact ⟨c, by rw [jI_sI, if_neg (by omega), jI_sI, if_neg (by omega)]; exact c1, by rw [jI_sI, if_neg (by omega), jI_sI, if_neg (by omega)]; exact c2, c3, c4⟩
end LI
