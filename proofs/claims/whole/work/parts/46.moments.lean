/-! ===== SignalWaves$History: the moments ===== -/
section KS
variable {h g : jH} {s : Nat → Int}
def HK (h : jH) : Prop := (jS h 329).1 = 3 ∧ jP h 329 2 = 330 ∧ jP h 329 3 = 331 ∧ jS h 330 = (16, 61) ∧ jS h 331 = (20, 61) ∧ ∀ i, i < 61 → jS h (332 + i) = (16, 12)
def HY (h : jH) : Prop := ∀ i, i < 61 → jY h 331 i = 332 + i
/-- the moments so far are the times of S, in their order -/
def MS (h : jH) (L : Int) (S : Int → Prop) (c : Nat) : Prop :=
  ∃ cnt : Nat, jI h 329 0 = (cnt : Int) ∧ cnt ≤ c ∧ jI h 329 1 = L ∧ (∀ i, i + 1 < cnt → jX h 330 i < jX h 330 (i + 1)) ∧ (∀ i, i < cnt → S (jX h 330 i)) ∧ ∀ t, S t → ∃ i, i < cnt ∧ jX h 330 i = t
theorem MS.congr {L : Int} {S S' : Int → Prop} {c c' : Nat} (hm : MS h L S c) (he : ∀ t, S t ↔ S' t) (hc : c ≤ c') : MS h L S' c' := by
  obtain ⟨cnt, m1, m2, m3, m4, m5, m6⟩ := hm
  exact ⟨cnt, m1, by omega, m3, m4, fun i hi => (he _).mp (m5 i hi), fun t ht => m6 t ((he t).mpr ht)⟩
theorem MS.mono {L : Int} {S : Int → Prop} {c : Nat} (hm : MS h L S c) : ∃ cnt : Nat, jI h 329 0 = (cnt : Int) ∧ ∀ i j, i < j → j < cnt → jX h 330 i < jX h 330 j := by
  obtain ⟨cnt, m1, m2, m3, m4, m5, m6⟩ := hm
  refine ⟨cnt, m1, fun i j => ?_⟩
  induction j with
  | zero => intro q; omega
  | succ j ih =>
    intro q q2
    have := m4 j q2
    by_cases z : i = j
    · subst z; exact this
    · have := ih (by omega) (by omega); omega
theorem eX3_addMoment {d c : Nat} {L x : Int} {S : Int → Prop} (hK : HK h) (hm : MS h L S c) (hc : c < 61) :
    Ex MX3_addMoment d [.inr 329, .inl x] h 0 0 (fun v g => v = none ∧ Fr 329 331 h g ∧ MS g L (fun t => S t ∨ (t = x ∧ x ≤ L)) (c + 1)) := by
  obtain ⟨k1, k2, k3, k4, k5, k6⟩ := id hK
  obtain ⟨cnt, m1, m2, m3, m4, m5, m6⟩ := id hm
  obtain ⟨cnt', m1', mm⟩ := hm.mono
  obtain rfl : cnt' = cnt := by omega
  refine Ex_of_V tX3_addMoment (Nat.le_of_ble_eq_true rfl) ?_
  apply bX3_addMoment_0
  case s1 => exact k1
  -- nothing is added
  have same : ∀ (p : Nat) (z : Int), ((∃ i, i < cnt' ∧ jX h 330 i = x) ∨ L < x) → V MX3_addMoment d 113 [some (.inr 329), some (.inl x), some (.inl (p : Int)), some (.inl z)] [] h 0 0 (fun v g => v = none ∧ Fr 329 331 h g ∧ MS g L (fun t => S t ∨ (t = x ∧ x ≤ L)) (c + 1)) := by
    intro p z hz
    apply bX3_addMoment_113
    refine ⟨rfl, Fr.rf, hm.congr (fun t => ⟨fun q => Or.inl q, fun q => ?_⟩) (by omega)⟩
    rcases q with q | ⟨q, q2⟩
    · exact q
    · rcases hz with ⟨i, hi, e⟩ | hz
      · rw [q, ← e]; exact m5 i hi
      · omega
  -- the place is found
  have put : ∀ p : Nat, p ≤ cnt' → (∀ i, p ≤ i → i < cnt' → x ≤ jX h 330 i) → (∀ i, i < p → jX h 330 i < x) → V MX3_addMoment d 27 [some (.inr 329), some (.inl x), some (.inl (p : Int)), none] [] h 0 0 (fun v g => v = none ∧ Fr 329 331 h g ∧ MS g L (fun t => S t ∨ (t = x ∧ x ≤ L)) (c + 1)) := by
    intro p hp hge hlt
    have new : (p < cnt' → jX h 330 p ≠ x) → V MX3_addMoment d 45 [some (.inr 329), some (.inl x), some (.inl (p : Int)), none] [] h 0 0 (fun v g => v = none ∧ Fr 329 331 h g ∧ MS g L (fun t => S t ∨ (t = x ∧ x ≤ L)) (c + 1)) := by
      intro hne
      apply bX3_addMoment_45
      apply bX3_addMoment_50
      case k1 => intro q; omega
      case k2 => intro _ q; rw [m3] at q; exact same p _ (Or.inr q)
      case k3 => intro _ _ q; rw [k2, k4, m1] at q; exact absurd (show (61 : Int) ≤ (cnt' : Int) from q) (by omega)
      case r1 => intros; exact ⟨by omega, by omega⟩
      case r2 => intros; rw [m1]; exact ⟨by omega, by omega⟩
      case r3 => intros; rw [m1]; exact ⟨by omega, by omega⟩
      case k4 =>
        intro _ q _
        rw [m3] at q
        rw [k2, m1, Int.toNat_natCast, show ((p : Int) + 1).toNat = p + 1 by omega, show ((cnt' : Int) - (p : Int)).toNat = cnt' - p by omega]
        have hT : ∀ i, i ≤ cnt' → jX (jsI (jsX (jcpy h 330 p 330 (p + 1) (cnt' - p)) 330 p x) 329 0 ((cnt' : Int) + 1)) 330 i = if i < p then jX h 330 i else if i = p then x else jX h 330 (i - 1) := by
          intro i hi
          rw [jX_sI, jX_sX, jX_cpy]
          by_cases q1 : i = p
          · rw [if_pos ⟨rfl, q1⟩, if_neg (by omega), if_pos q1]
          · rw [if_neg (fun z => q1 z.2)]
            by_cases q2 : i < p
            · rw [if_neg (by omega), if_pos q2]
            · rw [if_pos ⟨rfl, by omega, by omega⟩, if_neg q2, if_neg q1]
              congr 1
              omega
        apply bX3_addMoment_113
        refine ⟨rfl, ?_, cnt' + 1, by rw [jI_sI, if_pos ⟨rfl, rfl⟩]; omega, by omega, by rw [jI_sI, if_neg (by omega)]; exact m3, fun i hi => ?_, fun i hi => ?_, fun t ht => ?_⟩
        · exact ((Fr.cpy (by omega) (by omega)).trans (Fr.sX (by omega) (by omega))).trans (Fr.sI (by omega) (by omega))
        · rw [hT i (by omega), hT (i + 1) (by omega)]
          by_cases q1 : i + 1 < p
          · rw [if_pos (by omega), if_pos q1]; exact mm _ _ (by omega) (by omega)
          · by_cases q2 : i + 1 = p
            · rw [if_pos (by omega), if_neg q1, if_pos q2]; exact hlt i (by omega)
            · rw [if_neg (by omega), if_neg q1, if_neg q2]
              by_cases q3 : i = p
              · rw [if_pos q3, show i + 1 - 1 = p by omega]
                have := hge p (Nat.le_refl _) (by omega)
                have := hne (by omega)
                omega
              · rw [if_neg q3]
                exact mm _ _ (by omega) (by omega)
        · rw [hT i (by omega)]
          by_cases q1 : i < p
          · rw [if_pos q1]; exact Or.inl (m5 i (by omega))
          · rw [if_neg q1]
            by_cases q2 : i = p
            · rw [if_pos q2]; exact Or.inr ⟨rfl, by omega⟩
            · rw [if_neg q2]; exact Or.inl (m5 _ (by omega))
        · rcases ht with ht | ⟨ht, -⟩
          · obtain ⟨i, hi, e⟩ := m6 t ht
            by_cases q1 : i < p
            · exact ⟨i, by omega, by rw [hT i (by omega), if_pos q1, e]⟩
            · exact ⟨i + 1, by omega, by rw [hT (i + 1) (by omega), if_neg (by omega), if_neg (by omega), Nat.add_sub_cancel, e]⟩
          · exact ⟨p, by omega, by rw [hT p (by omega), if_neg (by omega), if_pos rfl, ht]⟩
      all_goals first
        | exact k1
        | (rw [k2, k4]; done)
        | (intros; omega)
        | (intros; rw [k2, k4]; refine Int.lt_of_le_of_lt (b := 60) ?_ (by decide); omega)
        | (intros; rw [k2, k4, m1]; show _ ≤ (61 : Int); omega)
        | (intros; rw [m1]; omega)
    apply bX3_addMoment_27
    case k1 => intro q; rw [m1] at q; exact new (fun z => by omega)
    case k2 =>
      intro _ q
      rw [k2, Int.toNat_natCast] at q
      have hpc : p < cnt' := by rename_i z; rw [m1] at z; omega
      apply bX3_addMoment_50
      case k1 => intro _; exact same p _ (Or.inl ⟨p, hpc, q⟩)
      all_goals first
        | exact k1
        | (rw [k2, k4]; done)
        | (intro z; exact absurd rfl z)
    case k3 =>
      intro _ q
      rw [k2, Int.toNat_natCast] at q
      exact new (fun _ => q)
    all_goals first
      | exact k1
      | (rw [k2, k4]; done)
      | (intros; omega)
      | (intros; rw [k2, k4]; refine Int.lt_of_le_of_lt (b := 60) ?_ (by decide); omega)
  have key : ∀ p : Nat, p ≤ cnt' → (∀ i, p ≤ i → i < cnt' → x ≤ jX h 330 i) → V MX3_addMoment d 5 [some (.inr 329), some (.inl x), some (.inl (p : Int)), none] [] h 0 0 (fun v g => v = none ∧ Fr 329 331 h g ∧ MS g L (fun t => S t ∨ (t = x ∧ x ≤ L)) (c + 1)) := by
    intro p
    induction p with
    | zero =>
      intro hp hge
      apply bX3_addMoment_5
      case k1 => intro _; exact put 0 hp hge (fun i hi => absurd hi (Nat.not_lt_zero _))
      all_goals first
        | exact k1
        | (rw [k2, k4]; done)
        | (intro z; exact absurd (by decide) z)
    | succ p ih =>
      intro hp hge
      have e1 : (((p + 1 : Nat) : Int) - 1).toNat = p := by omega
      apply bX3_addMoment_5
      case k1 => intro q; omega
      case k2 =>
        intro _ q
        rw [k2, e1] at q
        refine put (p + 1) hp hge (fun i hi => ?_)
        by_cases z : i = p
        · subst z; exact q
        · have := mm i p (by omega) (by omega); omega
      case k3 =>
        intro _ q
        rw [k2, e1] at q
        rw [show ((p + 1 : Nat) : Int) + (-1) = (p : Int) by omega]
        refine ih (by omega) (fun i hi hi2 => ?_)
        by_cases z : i = p
        · subst z; omega
        · exact hge i (by omega) hi2
      all_goals first
        | exact k1
        | (rw [k2, k4]; done)
        | (intros; exact ⟨by omega, by omega⟩)
        | (intros; omega)
        | (intros; rw [k2, k4]; refine Int.lt_of_le_of_lt (b := 60) ?_ (by decide); omega)
  rw [m1]
  exact key cnt' (Nat.le_refl _) (fun i hi hi2 => by omega)
end KS
