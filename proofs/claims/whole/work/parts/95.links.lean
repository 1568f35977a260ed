/-! ===== tokens: what both sides see in them ===== -/
section MO
variable {h g : jH} {b : Nat → Int} {c : Nat}
theorem tok {p : Nat} : (¬ p < c ∧ tso b c p = 4 ∧ tsg b c p = -9) ∨ (p < c ∧ (48 ≤ b p ∧ b p ≤ 57) ∧ tsg b c p = b p ∧ (tso b c p = 5 ∨ tso b c p = 2)) ∨ (p < c ∧ (97 ≤ b p ∧ b p ≤ 122) ∧ tsg b c p = b p ∧ tso b c p = 1 ∧ tva b c p = b p - 97) ∨
    (p < c ∧ ¬ (48 ≤ b p ∧ b p ≤ 57) ∧ ¬ (97 ≤ b p ∧ b p ≤ 122) ∧ sgn (b p) ∧ tsg b c p = b p ∧ tso b c p = 3 ∧ tva b c p = b p) ∨ (p < c ∧ ¬ (48 ≤ b p ∧ b p ≤ 57) ∧ ¬ (97 ≤ b p ∧ b p ≤ 122) ∧ ¬ sgn (b p) ∧ tsg b c p = b p ∧ tso b c p = 5) := by
  by_cases hp : p < c
  · have e1 : tsg b c p = b p := if_pos hp
    by_cases hd : 48 ≤ b p ∧ b p ≤ 57
    · refine Or.inr (Or.inl ⟨hp, hd, e1, ?_⟩)
      unfold tso
      rw [if_pos hp, if_pos hd]
      split
      · exact Or.inl rfl
      · split
        · exact Or.inl rfl
        · exact Or.inr rfl
    · by_cases hl : 97 ≤ b p ∧ b p ≤ 122
      · refine Or.inr (Or.inr (Or.inl ⟨hp, hl, e1, ?_, ?_⟩))
        · unfold tso; rw [if_pos hp, if_neg hd, if_pos hl]
        · unfold tva; rw [if_neg hd, if_pos hl]
      · by_cases hs : sgn (b p)
        · refine Or.inr (Or.inr (Or.inr (Or.inl ⟨hp, hd, hl, hs, e1, ?_, ?_⟩)))
          · unfold tso; rw [if_pos hp, if_neg hd, if_neg hl]; exact if_pos hs
          · unfold tva; rw [if_neg hd, if_neg hl]
        · refine Or.inr (Or.inr (Or.inr (Or.inr ⟨hp, hd, hl, hs, e1, ?_⟩)))
          unfold tso
          rw [if_pos hp, if_neg hd, if_neg hl]
          exact if_neg hs
  · refine Or.inl ⟨hp, ?_, if_neg hp⟩
    unfold tso
    rw [if_neg hp]
theorem lk_l {p : Nat} : jlet (tsg b c p) = if tso b c p = 1 then tva b c p else -9 := by
  rcases tok (b := b) (c := c) (p := p) with ⟨h1, h2, h3⟩ | ⟨h1, h2, h3, h4⟩ | ⟨h1, h2, h3, h4, h5⟩ | ⟨h1, h2, h3, h4, h5, h6, h7⟩ | ⟨h1, h2, h3, h4, h5, h6⟩
  · rw [h3, h2]; rfl
  · rw [h3, if_neg (by omega)]; unfold jlet; rw [if_neg (by omega)]
  · rw [h3, if_pos h4, h5]; unfold jlet; rw [if_pos h2]
  · rw [h5, if_neg (by omega)]; unfold jlet; rw [if_neg h3]
  · rw [h5, if_neg (by omega)]; unfold jlet; rw [if_neg h3]
theorem lk_s {p : Nat} {x : Int} (hx : sgn x) : tsg b c p = x ↔ (tso b c p = 3 ∧ tva b c p = x) := by
  rcases tok (b := b) (c := c) (p := p) with ⟨h1, h2, h3⟩ | ⟨h1, h2, h3, h4⟩ | ⟨h1, h2, h3, h4, h5⟩ | ⟨h1, h2, h3, h4, h5, h6, h7⟩ | ⟨h1, h2, h3, h4, h5, h6⟩
  · rw [h3, h2]; unfold sgn at hx; exact ⟨fun q => by omega, fun q => by omega⟩
  · rw [h3]; unfold sgn at hx; exact ⟨fun q => by omega, fun q => by omega⟩
  · rw [h3, h4]; unfold sgn at hx; exact ⟨fun q => by omega, fun q => by omega⟩
  · rw [h5, h6, h7]; exact ⟨fun q => ⟨rfl, q⟩, fun q => q.2⟩
  · rw [h5, h6]; exact ⟨fun q => absurd (by rw [q]; exact hx) h4, fun q => by omega⟩
theorem lk_e {p : Nat} (hb : byt b c) : (tsg b c p = -9 ↔ ¬ p < c) ∧ (tso b c p = 4 ↔ ¬ p < c) := by
  rcases tok (b := b) (c := c) (p := p) with ⟨h1, h2, h3⟩ | ⟨h1, h2, h3, h4⟩ | ⟨h1, h2, h3, h4, h5⟩ | ⟨h1, h2, h3, h4, h5, h6, h7⟩ | ⟨h1, h2, h3, h4, h5, h6⟩
  · exact ⟨⟨fun _ => h1, fun _ => h3⟩, ⟨fun _ => h1, fun _ => h2⟩⟩
  · have := hb.2 p h1; exact ⟨⟨fun q => by omega, fun q => absurd h1 q⟩, ⟨fun q => by omega, fun q => absurd h1 q⟩⟩
  · have := hb.2 p h1; exact ⟨⟨fun q => by omega, fun q => absurd h1 q⟩, ⟨fun q => by omega, fun q => absurd h1 q⟩⟩
  · have := hb.2 p h1; exact ⟨⟨fun q => by omega, fun q => absurd h1 q⟩, ⟨fun q => by omega, fun q => absurd h1 q⟩⟩
  · have := hb.2 p h1; exact ⟨⟨fun q => by omega, fun q => absurd h1 q⟩, ⟨fun q => by omega, fun q => absurd h1 q⟩⟩
theorem tso_lt {p : Nat} (hs : tso b c p ≠ 4) : p < c := by
  rcases tok (b := b) (c := c) (p := p) with ⟨h1, h2, h3⟩ | ⟨h1, -⟩ | ⟨h1, -⟩ | ⟨h1, -⟩ | ⟨h1, -⟩
  · exact absurd h2 hs
  all_goals exact h1
theorem tva_name {p : Nat} (hs : tso b c p = 1) : 0 ≤ tva b c p ∧ tva b c p ≤ 25 := by
  rcases tok (b := b) (c := c) (p := p) with ⟨h1, h2, h3⟩ | ⟨h1, h2, h3, h4⟩ | ⟨h1, h2, h3, h4, h5⟩ | ⟨h1, h2, h3, h4, h5, h6, h7⟩ | ⟨h1, h2, h3, h4, h5, h6⟩ <;> omega
/-- the number that the token is, or -9 -/
def tnu (b : Nat → Int) (c p : Nat) : Int := if tso b c p = 2 then tva b c p else -9
theorem tdv_up {p m : Nat} (hf : 48 ≤ b (p + m)) : 10 * tdv b p m ≤ tdv b p (m + 1) := by
  show _ ≤ 10 * tdv b p m + b (p + m) - 48
  omega
theorem tdv_big {p : Nat} (hb : ∀ i, i < c → 0 ≤ b i ∧ b i ≤ 255) (h0 : b p ≠ 48) : ∀ m, (∀ i, i < m + 4 → fgd b c (p + i)) → 1000 ≤ tdv b p (m + 4)
  | 0, q => by
    have f0 := (q 0 (by omega)).2
    have f1 := (q 1 (by omega)).2
    have f2 := (q 2 (by omega)).2
    have f3 := (q 3 (by omega)).2
    have e1 : tdv b p 1 = 10 * 0 + b (p + 0) - 48 := rfl
    have e2 : tdv b p 2 = 10 * tdv b p 1 + b (p + 1) - 48 := rfl
    have e3 : tdv b p 3 = 10 * tdv b p 2 + b (p + 2) - 48 := rfl
    have e4 : tdv b p 4 = 10 * tdv b p 3 + b (p + 3) - 48 := rfl
    show 1000 ≤ tdv b p 4
    rw [Nat.add_zero] at f0 e1
    omega
  | m + 1, q => by
    have ih := tdv_big hb h0 m (fun i hi => q i (by omega))
    have := tdv_up (b := b) (p := p) (m := m + 4) (q (m + 4) (by omega)).2.1
    show 1000 ≤ tdv b p (m + 4 + 1)
    omega
theorem tdv_3 {p : Nat} : ∀ m, m ≤ 3 → (∀ i, i < m → fgd b c (p + i)) → 0 ≤ tdv b p m ∧ tdv b p m ≤ (if m = 0 then 0 else if m = 1 then 9 else if m = 2 then 99 else 999)
  | 0, _, _ => ⟨Int.le_refl _, Int.le_refl _⟩
  | 1, _, q => by
    have f0 := (q 0 (by omega)).2
    have e1 : tdv b p 1 = 10 * 0 + b (p + 0) - 48 := rfl
    rw [if_neg (by omega), if_pos rfl]
    omega
  | 2, _, q => by
    have f0 := (q 0 (by omega)).2
    have f1 := (q 1 (by omega)).2
    have e1 : tdv b p 1 = 10 * 0 + b (p + 0) - 48 := rfl
    have e2 : tdv b p 2 = 10 * tdv b p 1 + b (p + 1) - 48 := rfl
    rw [if_neg (by omega), if_neg (by omega), if_pos rfl]
    omega
  | 3, _, q => by
    have f0 := (q 0 (by omega)).2
    have f1 := (q 1 (by omega)).2
    have f2 := (q 2 (by omega)).2
    have e1 : tdv b p 1 = 10 * 0 + b (p + 0) - 48 := rfl
    have e2 : tdv b p 2 = 10 * tdv b p 1 + b (p + 1) - 48 := rfl
    have e3 : tdv b p 3 = 10 * tdv b p 2 + b (p + 2) - 48 := rfl
    rw [if_neg (by omega), if_neg (by omega), if_neg (by omega)]
    omega
  | m + 4, h, _ => absurd h (by omega)
/-- what the model's sort says of a number -/
theorem tnu_d {p : Nat} (hb : byt b c) (hp : p < c) (hf : 48 ≤ b p ∧ b p ≤ 57) : tnu b c p = if b p = 48 ∧ p + 1 < tdg b c p then -9 else if 255 < tdv b p (tdg b c p - p) then -9 else tdv b p (tdg b c p - p) := by
  have hle := tdg_le (b := b) (c := c) (p := p) (by omega)
  obtain ⟨c1, c2, c3, c4⟩ := tcv_b (p := p) hb.2 (tdg b c p - p) (tdg_fg (by omega) _ (by omega))
  unfold tnu
  by_cases z : 255 < tcv b p (tdg b c p - p)
  · have e : tso b c p = 5 := by unfold tso; rw [if_pos hp, if_pos hf, if_pos z]
    rw [e, if_neg (by decide)]
    have := c4 z
    split
    · rfl
    · first | rfl | rw [if_pos this]
  · by_cases z2 : b p = 48 ∧ p + 1 < tdg b c p
    · have e : tso b c p = 5 := by unfold tso; rw [if_pos hp, if_pos hf, if_neg z, if_pos z2]
      rw [e, if_neg (by decide), if_pos z2]
    · have e : tso b c p = 2 := by unfold tso; rw [if_pos hp, if_pos hf, if_neg z, if_neg z2]
      have e2 : tva b c p = tcv b p (tdg b c p - p) := by unfold tva; rw [if_pos hf]
      rw [e, if_pos rfl, if_neg z2, e2, c3 (by omega)]
      rw [if_neg (by have := c3 (by omega); omega)]
theorem eX7_number {d p : Nat} (hT : TXC h b c) (hP : TXP h b c p) :
    Ex MX7_number d [.inr 3] h 0 0 (fun r g => r = some (.inl (tnu b c p)) ∧ g = h) := by
  obtain ⟨p1, p2, p3, p4⟩ := hP
  have hby := hT.2.2.2.2.1
  have hc := hby.1
  have ht := ten_b (b := b) p1
  refine Ex_of_V tX7_number (Nat.le_of_ble_eq_true rfl) ?_
  by_cases hf : p < c ∧ 48 ≤ b p ∧ b p ≤ 57
  · have e4 : tsg b c p = b p := if_pos hf.1
    have e3 : ten b c p = tdg b c p := by unfold ten; rw [if_pos hf.1, if_pos hf.2]
    have hle := tdg_le (b := b) (c := c) (p := p) (by omega)
    have hlt : p < tdg b c p := by have := ht.2 hf.1; omega
    have hn := tnu_d hby hf.1 hf.2
    have body : tdg b c p - p ≤ 3 → ¬ (b p = 48 ∧ p + 1 < tdg b c p) → V MX7_number d 57 [some (.inr 3), some (.inl ((tdg b c p : Int) - (p : Int))), some (.inl 0), some (.inl (p : Int))] [] h 0 0 (fun r g => r = some (.inl (tnu b c p)) ∧ g = h) := by
      intro y1 y2
      rw [if_neg y2] at hn
      have key : ∀ w m : Nat, m + w = tdg b c p - p → V MX7_number d 57 [some (.inr 3), some (.inl ((tdg b c p : Int) - (p : Int))), some (.inl (tdv b p m)), some (.inl ((p + m : Nat) : Int))] [] h 0 0 (fun r g => r = some (.inl (tnu b c p)) ∧ g = h) := by
        intro w
        induction w with
        | zero =>
          intro m hm
          have hm' : tdg b c p - p = m := by omega
          rw [hm'] at hn
          apply bX7_number_57
          case q1 => intro _ z; rw [if_pos z] at hn; rw [hn]; exact ⟨rfl, rfl⟩
          case q2 => intro _ z; rw [if_neg z] at hn; rw [hn]; exact ⟨rfl, rfl⟩
          case k1 => rw [p3, e3]; intro z; omega
          all_goals (try rw [p3, e3])
          all_goals first
            | exact hT.1
            | (rw [hT.2.1, hT.2.2.1]; done)
            | (intro z; omega)
        | succ w ih =>
          intro m hm
          have hfm := tdg_fg (b := b) (c := c) (p := p) (by omega) (m + 1) (by omega) m (by omega)
          have hv := tdv_3 (b := b) (c := c) (p := p) m (by omega) (tdg_fg (by omega) m (by omega))
          have eb : jX h (jP h 3 0) ((((p + m : Nat) : Int)).toNat) = b (p + m) := by rw [hT.2.1, Int.toNat_natCast]; exact hT.2.2.2.2.2 _ hfm.1
          have hv2 : tdv b p m ≤ 999 := by
            have := hv.2
            split at this
            · omega
            · split at this
              · omega
              · split at this <;> omega
          have hfb := hfm.2
          apply bX7_number_57
          case q1 => rw [p3, e3]; intro z; omega
          case q2 => rw [p3, e3]; intro z; omega
          case k1 =>
            rw [eb, show ((p + m : Nat) : Int) + 1 = ((p + (m + 1) : Nat) : Int) by omega]
            intro _
            exact ih (m + 1) (by omega)
          all_goals (try rw [p3, e3])
          all_goals (try rw [eb])
          all_goals first
            | exact hT.1
            | (rw [hT.2.1, hT.2.2.1]; done)
            | (intros; exact ⟨by omega, by omega⟩)
            | (intros; omega)
            | (intros; rw [hT.2.1, hT.2.2.1]; refine Int.lt_of_le_of_lt (b := 159) ?_ (by decide); have := hfm.1; omega)
      exact key (tdg b c p - p) 0 (by omega)
    apply bX7_number_0
    case q1 => rw [p4, e4]; intro z; omega
    case q2 => rw [p4, e4]; intro _ z; omega
    case q3 =>
      rw [p4, e4, p3, p2, e3]
      intro _ _ z
      refine ⟨?_, rfl⟩
      rw [hn]
      split
      · rfl
      · rename_i y
        have hb4 : b p ≠ 48 := fun y2 => y ⟨y2, by omega⟩
        have := tdv_big (p := p) hby.2 hb4 (tdg b c p - p - 4) (tdg_fg (by omega) _ (by omega))
        rw [show tdg b c p - p - 4 + 4 = tdg b c p - p by omega] at this
        rw [if_pos (by omega)]
    case k1 => rw [p4, e4, p3, p2, e3]; intro _ _ z z2; exact body (by omega) (fun y => z2 y.1)
    case k2 => rw [p4, e4, p3, p2, e3]; intro _ _ z _ z2; exact body (by omega) (fun y => by omega)
    case q4 =>
      rw [p4, e4, p3, p2, e3]
      intro _ _ z z2 z3
      refine ⟨?_, rfl⟩
      rw [hn, if_pos ⟨z2, by omega⟩]
    all_goals (try rw [p3, p2])
    all_goals first
      | exact hT.1
      | exact ⟨by omega, by omega⟩
  · have e0 : tnu b c p = -9 := by
      unfold tnu
      rcases tok (b := b) (c := c) (p := p) with ⟨h1, h2, h3⟩ | ⟨h1, h2, h3, h4⟩ | ⟨h1, h2, h3, h4, h5⟩ | ⟨h1, h2, h3, h4, h5, h6, h7⟩ | ⟨h1, h2, h3, h4, h5, h6⟩
      · rw [h2]; rfl
      · exact absurd ⟨h1, h2⟩ hf
      · rw [h4]; rfl
      · rw [h6]; rfl
      · rw [h6]; rfl
    rw [e0]
    have hs : ¬ (48 ≤ tsg b c p ∧ tsg b c p ≤ 57) := by
      intro y
      by_cases z : p < c
      · have e4 : tsg b c p = b p := if_pos z
        rw [e4] at y
        exact hf ⟨z, y⟩
      · have e4 : tsg b c p = -9 := if_neg z
        omega
    apply bX7_number_0
    case q1 => intro _; exact ⟨rfl, rfl⟩
    case q2 => intro _ _; exact ⟨rfl, rfl⟩
    case q3 => intro _ _ _; exact ⟨rfl, rfl⟩
    case q4 => intro _ _ _ _ _; exact ⟨rfl, rfl⟩
    case k1 => rw [p4]; intro z z2; omega
    case k2 => rw [p4]; intro z z2; omega
    all_goals (try rw [p3, p2])
    all_goals first
      | exact hT.1
      | exact ⟨by omega, by omega⟩
theorem eX9_due {d : Nat} {x : Int} (hM : MK h) : Ex MX9_due d [.inr 476, .inl x] h 0 0 (fun r g => r = none ∧ g = if x = 0 ∧ jI h 476 20 = -9 then jsI h 476 20 (jI h 476 17) else h) := by
  refine Ex_of_V tX9_due (Nat.le_of_ble_eq_true rfl) ?_
  apply bX9_due_0
  case q1 => intro z; exact ⟨rfl, by rw [if_neg (fun y => z y.1)]⟩
  case q2 => intro z z2; exact ⟨rfl, by rw [if_neg (fun y => z2 y.2)]⟩
  case q3 => intro z z2; exact ⟨rfl, by rw [if_pos ⟨z, z2⟩]⟩
  all_goals exact hM.x
end MO
