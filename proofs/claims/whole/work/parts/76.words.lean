/-! ===== model: dictionaries and rooms ===== -/
section LW
variable {h g : jH} {node wi sn code cm s past : Nat → Int} {n nw nd ns u D : Nat} {K : Int}
/-- frames of the model's own fields and rows -/
def MF (P F : Nat → Prop) (h g : jH) : Prop := jP g = jP h ∧ jS g = jS h ∧ jN g = jN h ∧ jY g = jY h ∧ (∀ a, ¬ P a → jX g a = jX h a) ∧ (∀ a, a ≠ 476 → jI g a = jI h a) ∧ ∀ k, ¬ F k → jI g 476 k = jI h 476 k
section LWa
variable {P F : Nat → Prop}
theorem MF.rf : MF P F h h := ⟨rfl, rfl, rfl, rfl, fun _ _ => rfl, fun _ _ => rfl, fun _ _ => rfl⟩
theorem MF.trans {k : jH} (h1 : MF P F h g) (h2 : MF P F g k) : MF P F h k :=
  ⟨h2.1.trans h1.1, h2.2.1.trans h1.2.1, h2.2.2.1.trans h1.2.2.1, h2.2.2.2.1.trans h1.2.2.2.1, fun a ha => (h2.2.2.2.2.1 a ha).trans (h1.2.2.2.2.1 a ha), fun a ha => (h2.2.2.2.2.2.1 a ha).trans (h1.2.2.2.2.2.1 a ha), fun a ha => (h2.2.2.2.2.2.2 a ha).trans (h1.2.2.2.2.2.2 a ha)⟩
theorem MF.wide {P' F' : Nat → Prop} (h1 : MF P F h g) (hp : ∀ a, P a → P' a) (hf : ∀ a, F a → F' a) : MF P' F' h g :=
  ⟨h1.1, h1.2.1, h1.2.2.1, h1.2.2.2.1, fun a ha => h1.2.2.2.2.1 a (fun z => ha (hp a z)), h1.2.2.2.2.2.1, fun a ha => h1.2.2.2.2.2.2 a (fun z => ha (hf a z))⟩
theorem MF.sX {a k : Nat} {v : Int} (ha : P a) : MF P F h (jsX h a k v) :=
  ⟨rfl, rfl, rfl, rfl, fun b hb => funext fun j => by rw [jX_sX, if_neg (show ¬ (b = a ∧ j = k) from fun z => hb (by rw [z.1]; exact ha))], fun _ _ => rfl, fun _ _ => rfl⟩
theorem MF.sI {k : Nat} {v : Int} (hk : F k) : MF P F h (jsI h 476 k v) :=
  ⟨rfl, rfl, rfl, rfl, fun _ _ => rfl, fun b hb => funext fun j => by rw [jI_sI, if_neg (show ¬ (b = 476 ∧ j = k) from fun z => hb z.1)], fun j hj => by rw [jI_sI, if_neg (show ¬ (476 = 476 ∧ j = k) from fun z => hj (by rw [z.2]; exact hk))]⟩
theorem MF.xf (h1 : MF P F h g) (hp : ∀ a, P a → sc a) (hf : ∀ k, F k → sf k) : XF h g :=
  ⟨h1.1, h1.2.1, h1.2.2.1, fun a ha => ⟨h1.2.2.2.2.1 a (fun z => ha (hp a z)), by rw [h1.2.2.2.1], fun b _ _ => h1.2.2.2.2.2.1 a b⟩, fun k hk => h1.2.2.2.2.2.2 k (fun z => hk (hf k z)), by rw [h1.2.2.2.2.2.1 3 (by omega)]⟩
theorem MF.mk (h1 : MF P F h g) (hM : MK h) : MK g := hM.fr h1.1 h1.2.1
end LWa
theorem dc_in {f : Nat → Int} {a m : Nat} (q : ∀ j, j < m → f (a + j) ≠ f (a + m)) : dc f a (m + 1) = dc f a m + 1 := by
  conv => lhs; unfold dc
  rw [if_pos q]
theorem dc_out {f : Nat → Int} {a m j : Nat} (h1 : j < m) (q : f (a + j) = f (a + m)) : dc f a (m + 1) = dc f a m := by
  conv => lhs; unfold dc
  rw [if_neg (fun z => z j h1 q)]
  rfl
theorem dc_up {f : Nat → Int} {a m : Nat} : dc f a m ≤ dc f a (m + 1) := by
  conv => rhs; unfold dc
  exact Nat.le_add_right _ _
theorem dc_mono {f : Nat → Int} {a m : Nat} : ∀ k, m ≤ k → dc f a m ≤ dc f a k
  | 0, q => by obtain rfl : m = 0 := by omega
               exact Nat.le_refl _
  | k + 1, q => by
    by_cases z : m = k + 1
    · rw [z]; exact Nat.le_refl _
    · exact Nat.le_trans (dc_mono k (by omega)) dc_up
theorem dc_sur {f : Nat → Int} {a i : Nat} : ∀ k, i < dc f a k → ∃ m, m < k ∧ (∀ j, j < m → f (a + j) ≠ f (a + m)) ∧ dc f a m = i
  | 0, q => absurd q (Nat.not_lt_zero _)
  | k + 1, q => by
    by_cases z : i < dc f a k
    · obtain ⟨m, h1, h2, h3⟩ := dc_sur k z
      exact ⟨m, by omega, h2, h3⟩
    · by_cases w : ∀ j, j < k → f (a + j) ≠ f (a + k)
      · rw [dc_in w] at q
        exact ⟨k, by omega, w, by omega⟩
      · have : dc f a (k + 1) = dc f a k := by
          conv => lhs; unfold dc
          rw [if_neg w]
          rfl
        omega
theorem fi_at {f : Nat → Int} {v : Int} {a : Nat} : ∀ k m, (∀ j, j < m → f (a + j) ≠ v) → (∀ j, j < fi f v a k m → f (a + j) ≠ v) ∧ (fi f v a k m < m + k → f (a + fi f v a k m) = v)
  | 0, m, q => ⟨q, fun z => absurd z (by unfold fi; omega)⟩
  | k + 1, m, q => by
    unfold fi
    by_cases z : f (a + m) = v
    · rw [if_pos z]; exact ⟨q, fun _ => z⟩
    · rw [if_neg z]
      have := fi_at k (m + 1) (fun j hj => by
        rcases (show j < m ∨ j = m by omega) with y | rfl
        · exact q j y
        · exact z)
      exact ⟨this.1, fun w => this.2 (by omega)⟩
/-- the first place of the n-th value -/
theorem fi_k {f : Nat → Int} {a n m : Nat} (h1 : m ≤ n) (h2 : f (a + m) = f (a + n)) (h3 : ∀ j, j < m → f (a + j) ≠ f (a + n)) : fi f (f (a + n)) a n 0 = m := by
  obtain ⟨p1, p2⟩ := fi_at (f := f) (v := f (a + n)) (a := a) n 0 (fun j hj => absurd hj (Nat.not_lt_zero _))
  have hle := fi_le f (f (a + n)) a n 0
  by_cases q : fi f (f (a + n)) a n 0 < m
  · exact absurd (p2 (by omega)) (h3 _ q)
  · by_cases q2 : m < fi f (f (a + n)) a n 0
    · exact absurd h2 (p1 m q2)
    · omega
theorem pl_at {f : Nat → Int} {a n m : Nat} (h1 : m ≤ n) (h2 : f (a + m) = f (a + n)) (h3 : ∀ j, j < m → f (a + j) ≠ f (a + m)) : pl f a n = dc f a m := by
  unfold pl
  rw [fi_k h1 h2 (fun j hj => by rw [← h2]; exact h3 j hj)]
/-- the dictionary of the first k values behind a -/
def WS (h : jH) (f : Nat → Int) (a k : Nat) : Prop := jI h 476 47 = (dc f a k : Int) ∧ ∀ m, m < k → (∀ j, j < m → f (a + j) ≠ f (a + m)) → jX h 502 (dc f a m) = f (a + m)
theorem eX9_placeOf {d a k : Nat} {f : Nat → Int} {v : Int} (hM : MK h) (ws : WS h f a k) (hk : k ≤ 8) (hv : k = 8 → ∃ m, m < k ∧ f (a + m) = v) :
    Ex MX9_placeOf d [.inr 476, .inl v] h 0 0 (fun r g => (∃ m, m < k ∧ (∀ j, j < m → f (a + j) ≠ f (a + m)) ∧ f (a + m) = v ∧ r = some (.inl (dc f a m : Int)) ∧ g = h) ∨ ((∀ m, m < k → f (a + m) ≠ v) ∧ r = some (.inl (dc f a k : Int)) ∧ g = jsI (jsX h 502 (dc f a k) v) 476 47 ((dc f a k : Int) + 1))) := by
  obtain ⟨w1, w2⟩ := ws
  have hdk := dc_le f a k
  -- no word is the value, then no value was
  have none' : (∀ i, i < dc f a k → jX h 502 i ≠ v) → ∀ m, m < k → f (a + m) ≠ v := by
    intro q m hm e
    obtain ⟨p1, p2⟩ := fi_at (f := f) (v := v) (a := a) (m + 1) 0 (fun j hj => absurd hj (Nat.not_lt_zero _))
    have hx : fi f v a (m + 1) 0 ≤ m := by
      by_cases z : m < fi f v a (m + 1) 0
      · exact absurd e (p1 m z)
      · omega
    have e2 := p2 (by omega)
    have nw2 : ∀ j, j < fi f v a (m + 1) 0 → f (a + j) ≠ f (a + fi f v a (m + 1) 0) := fun j hj => by rw [e2]; exact p1 j hj
    have h9 := w2 _ (by omega) nw2
    rw [e2] at h9
    refine q _ ?_ h9
    have := dc_mono (f := f) (a := a) (m := fi f v a (m + 1) 0 + 1) k (by omega)
    rw [dc_in nw2] at this
    omega
  refine Ex_of_V tX9_placeOf (Nat.le_of_ble_eq_true rfl) ?_
  apply bX9_placeOf_0
  have key : ∀ c i : Nat, i + c = dc f a k → (∀ j, j < i → jX h 502 j ≠ v) → V MX9_placeOf d 2 [some (.inr 476), some (.inl v), some (.inl (i : Int))] [] h 0 0 (fun r g => (∃ m, m < k ∧ (∀ j, j < m → f (a + j) ≠ f (a + m)) ∧ f (a + m) = v ∧ r = some (.inl (dc f a m : Int)) ∧ g = h) ∨ ((∀ m, m < k → f (a + m) ≠ v) ∧ r = some (.inl (dc f a k : Int)) ∧ g = jsI (jsX h 502 (dc f a k) v) 476 47 ((dc f a k : Int) + 1))) := by
    intro c
    induction c with
    | zero =>
      intro i hi hq
      have hno := none' (fun j hj => hq j (by omega))
      have h7 : dc f a k ≤ 7 := by
        by_cases z : k = 8
        · obtain ⟨m, h1, h2⟩ := hv z
          exact absurd h2 (hno m h1)
        · omega
      apply bX9_placeOf_2
      case q1 =>
        rw [w1, hM.p46]
        intro _
        exact Or.inr ⟨hno, by rw [Int.add_sub_cancel], by rw [Int.toNat_natCast]⟩
      case k1 => rw [w1]; intro z; omega
      case q2 => rw [w1]; intro z; omega
      all_goals (try rw [w1])
      all_goals first
        | exact hM.x
        | (rw [hM.p46, hM.s502]; done)
        | (intros; exact ⟨by omega, by omega⟩)
        | (intros; rw [hM.p46, hM.s502]; refine Int.lt_of_le_of_lt (b := 7) ?_ (by decide); omega)
        | (intros; omega)
    | succ c ih =>
      intro i hi hq
      apply bX9_placeOf_2
      case q1 => rw [w1]; intro z; omega
      case k1 =>
        rw [w1, hM.p46, Int.toNat_natCast]
        intro _ q
        rw [show (i : Int) + 1 = ((i + 1 : Nat) : Int) by omega]
        refine ih (i + 1) (by omega) (fun j hj => ?_)
        rcases (show j < i ∨ j = i by omega) with z | rfl
        · exact hq j z
        · exact q
      case q2 =>
        rw [w1, hM.p46, Int.toNat_natCast]
        intro _ q
        obtain ⟨m, h1, h2, h3⟩ := dc_sur (f := f) (a := a) (i := i) k (by omega)
        have h4 := w2 m h1 h2
        rw [h3, q] at h4
        exact Or.inl ⟨m, h1, h2, h4.symm, by rw [h3], rfl⟩
      all_goals (try rw [w1])
      all_goals first
        | exact hM.x
        | (rw [hM.p46, hM.s502]; done)
        | (intros; exact ⟨by omega, by omega⟩)
        | (intros; rw [hM.p46, hM.s502]; refine Int.lt_of_le_of_lt (b := 7) ?_ (by decide); omega)
        | (intros; omega)
  exact key (dc f a k) 0 (by omega) (fun j hj => absurd hj (Nat.not_lt_zero _))
/-- the next value comes to the dictionary -/
theorem WS.next {a k : Nat} {f : Nat → Int} {r : Option jA} (ws : WS h f a k) (hr : (∃ m, m < k ∧ (∀ j, j < m → f (a + j) ≠ f (a + m)) ∧ f (a + m) = f (a + k) ∧ r = some (.inl (dc f a m : Int)) ∧ g = h) ∨ ((∀ m, m < k → f (a + m) ≠ f (a + k)) ∧ r = some (.inl (dc f a k : Int)) ∧ g = jsI (jsX h 502 (dc f a k) (f (a + k))) 476 47 ((dc f a k : Int) + 1))) :
    r = some (.inl (pl f a k : Int)) ∧ WS g f a (k + 1) ∧ MF (fun b => b = 502) (fun b => b = 47) h g := by
  obtain ⟨w1, w2⟩ := ws
  rcases hr with ⟨m, h1, h2, h3, rfl, rfl⟩ | ⟨h1, rfl, rfl⟩
  · refine ⟨by rw [pl_at (by omega) h3 h2], ⟨by rw [dc_out h1 h3]; exact w1, fun i hi q => ?_⟩, MF.rf⟩
    rcases (show i < k ∨ i = k by omega) with z | rfl
    · exact w2 i z q
    · exact absurd h3 (q m h1)
  · refine ⟨by rw [pl_at (Nat.le_refl k) rfl h1], ⟨?_, fun i hi q => ?_⟩, (MF.sX (P := fun b => b = 502) (F := fun b => b = 47) rfl).trans (MF.sI rfl)⟩
    · rw [jI_sI, if_pos ⟨rfl, rfl⟩, dc_in h1]; omega
    · rw [jX_sI, jX_sX]
      rcases (show i < k ∨ i = k by omega) with z | rfl
      · have := dc_mono (f := f) (a := a) (m := i + 1) k (by omega)
        rw [dc_in q] at this
        rw [if_neg (by omega)]
        exact w2 i z q
      · rw [if_pos ⟨rfl, rfl⟩]
end LW
