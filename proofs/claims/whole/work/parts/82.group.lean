/-! ===== both sides: the room of a group of blocks ===== -/
section MC
variable {h g : jH} {node wi sn code cm s past : Nat → Int} {n nw nd ns u D : Nat} {K : Int}
def rgf (f t : Nat → Int) (nw c sz : Nat) : Nat → Nat → Int
  | 0, _ => 0
  | k + 1, a => if a < c then rm f t nw a (t a) (min sz (c - a)) + rgf f t nw c sz k (a + sz) else 0
def grp (f t : Nat → Int) (nw c : Nat) (b : Int) (sz : Nat) : Int := rm f t nw 0 b (min sz c) + rgf f t nw c sz c sz
theorem rgf_0 {f t : Nat → Int} {c sz k a : Nat} (q : c ≤ a) : rgf f t nw c sz k a = 0 := by
  cases k with
  | zero => rfl
  | succ k => unfold rgf; rw [if_neg (by omega)]
theorem rgf_s {f t : Nat → Int} {c sz k a : Nat} (q : a < c) : rgf f t nw c sz (k + 1) a = rm f t nw a (t a) (min sz (c - a)) + rgf f t nw c sz k (a + sz) := by
  conv => lhs; unfold rgf
  rw [if_pos q]
theorem rm_b {f t : Nat → Int} {a m : Nat} {b : Int} (hnw : nw ≤ 6) (hm : m ≤ 48) : 0 ≤ rm f t nw a b m ∧ rm f t nw a b m ≤ 300 := by
  unfold rm
  have h1 := rmc_b f t a b m
  have h2 := dc_le f a m
  constructor <;> omega
theorem rgf_cong {f f' t t' : Nat → Int} {c sz : Nat} (q : ∀ i, i < c → f i = f' i ∧ t i = t' i) : ∀ k a, rgf f t nw c sz k a = rgf f' t' nw c sz k a
  | 0, _ => rfl
  | k + 1, a => by
    by_cases z : a < c
    · rw [rgf_s z, rgf_s z, rgf_cong q k, (q a z).2, rm_cong (f := f) (f' := f') (t := t) (t' := t') (fun i hi => q (a + i) (by omega))]
    · rw [rgf_0 (by omega), rgf_0 (by omega)]
theorem grp_cong {f f' t t' : Nat → Int} {c sz : Nat} {b : Int} (q : ∀ i, i < c → f i = f' i ∧ t i = t' i) : grp f t nw c b sz = grp f' t' nw c b sz := by
  unfold grp
  rw [rgf_cong q, rm_cong (f := f) (f' := f') (t := t) (t' := t') (fun i hi => q (0 + i) (by omega))]
/-- the class's list of a group -/
def GK (h : jH) : Prop := (jS h 393).1 = 1 ∧ jP h 393 1 = 394 ∧ jP h 393 2 = 395 ∧ jP h 393 3 = 396 ∧ jS h 394 = (16, 48) ∧ jS h 395 = (16, 48) ∧ jS h 396 = (16, 48)
theorem IX.gk (hI : IX h) : GK h := hI.2.2.1
theorem eX8_roomOfGroup {d c sz : Nat} {b : Int} (h2 : (jS h 2).1 = 8) (hg : GK h) (p12 : jP h 2 12 = 393) (hk : (jS h (jP h 2 1)).1 = 2) (hw : jI h (jP h 2 1) 1 = (nw : Int)) (hnw : nw ≤ 6) (hc : jI h 393 0 = (c : Int)) (hc48 : c ≤ 48) (hz1 : 1 ≤ sz) (hz8 : sz ≤ 8) (hb0 : 0 ≤ b) (hb : b ≤ 999) (ht : ∀ i, i < c → 0 ≤ jX h 394 i ∧ jX h 394 i ≤ 999) :
    Ex MX8_roomOfGroup (d + 4) [.inr 2, .inl b, .inl (sz : Int)] h 0 0 (fun r g => r = some (.inl (grp (jX h 396) (jX h 394) nw c b sz)) ∧ g = h) := by
  obtain ⟨g0, g1, g2, g3, g4, g5, g6⟩ := id hg
  have room : ∀ (a m : Nat) (b : Int), a + m ≤ 48 → a + m ≤ c → 0 ≤ b → b ≤ 999 → Ex MX1_room (d + 3) [.inr 393, .inl (nw : Int), .inl b, .inl (a : Int), .inl ((a + m : Nat) : Int)] h 0 0 (fun r g => r = some (.inl (rm (jX h 396) (jX h 394) nw a b m)) ∧ g = h) := by
    intro a m b h1 h1' hb0 hb
    have h9 := eX1_room (d := d) (h := h) (c := 393) (a := a) (n := m) (wc := (nw : Int)) (b := b) g0 (by rw [g3, g6]) (by rw [g3, g6]; exact h1) (by rw [g3, g6]; decide) (by rw [g1, g4]) (by rw [g1, g4]; exact h1) (by omega) (by omega) hb0 hb (fun i hi => by rw [g1]; exact ht (a + i) (by omega))
    rw [g1, g3] at h9
    exact h9
  refine Ex_of_V tX8_roomOfGroup (Nat.le_of_ble_eq_true rfl) ?_
  apply bX8_roomOfGroup_0
  -- a: where the part begins, x: its begin's time, e: the change that is looked at
  have key : ∀ n k a e : Nat, ∀ acc x : Int, c ≤ e + n → a < e → e ≤ a + sz → (e ≤ c ∨ (c = 0 ∧ e = 1)) → c ≤ a + sz + k → 0 ≤ acc → acc ≤ 400 * (a : Int) → 0 ≤ x → x ≤ 999 → V MX8_roomOfGroup (d + 4) 11 [some (.inr 2), some (.inl b), some (.inl (sz : Int)), some (.inl acc), some (.inl (a : Int)), some (.inl x), some (.inl (e : Int))] [] h 0 0 (fun r g => r = some (.inl (acc + (rm (jX h 396) (jX h 394) nw a x (min sz (c - a)) + rgf (jX h 396) (jX h 394) nw c sz k (a + sz)))) ∧ g = h) := by
    have fin : ∀ k a e : Nat, ∀ acc x : Int, c ≤ e → a < e → e ≤ a + sz → (e ≤ c ∨ (c = 0 ∧ e = 1)) → c ≤ a + sz + k → 0 ≤ acc → acc ≤ 400 * (a : Int) → 0 ≤ x → x ≤ 999 → V MX8_roomOfGroup (d + 4) 11 [some (.inr 2), some (.inl b), some (.inl (sz : Int)), some (.inl acc), some (.inl (a : Int)), some (.inl x), some (.inl (e : Int))] [] h 0 0 (fun r g => r = some (.inl (acc + (rm (jX h 396) (jX h 394) nw a x (min sz (c - a)) + rgf (jX h 396) (jX h 394) nw c sz k (a + sz)))) ∧ g = h) := by
      intro k a e acc x q1 q2 q3 q4 q5 q6 q7 q8 q9
      have hra := rm_b (f := jX h 396) (t := jX h 394) (a := a) (m := c - a) (b := x) hnw (by omega)
      apply bX8_roomOfGroup_11
      case e1 =>
        intro _
        rw [p12, hc, hw]
        have h9 := room a (c - a) x (by omega) (by omega) q8 q9
        rw [show a + (c - a) = c by omega] at h9
        refine Ex.mono h9 ?_
        rintro r g ⟨rfl, rfl⟩
        apply bX8_roomOfGroup_103
        case q1 =>
          rw [show min sz (c - a) = c - a by omega, rgf_0 (by omega), Int.add_zero]
          exact ⟨rfl, rfl⟩
        case r1 => exact ⟨by omega, by omega⟩
      case s1 => exact h2
      case s2 => rw [p12]; exact g0
      case s3 => exact hk
      all_goals (rw [p12, hc]; intro y; omega)
    intro n
    induction n with
    | zero => intro k a e acc x q1; exact fin k a e acc x q1
    | succ n ih =>
      intro k a e acc x q1 q2 q3 q4 q5 q6 q7 q8 q9
      by_cases z : c ≤ e
      · exact fin k a e acc x z q2 q3 q4 q5 q6 q7 q8 q9
      apply bX8_roomOfGroup_11
      case e1 => rw [p12, hc]; intro y; omega
      case s1 => exact h2
      case s2 => rw [p12]; exact g0
      case s3 => exact hk
      case r1 => intro _; exact ⟨by omega, by omega⟩
      case r2 => intro _ _; exact ⟨by omega, by omega⟩
      case k1 =>
        intro _ y
        have h9 := ih k a (e + 1) acc x (by omega) (by omega) (by omega) (by omega) q5 q6 q7 q8 q9
        rw [show ((e + 1 : Nat) : Int) = (e : Int) + 1 by omega] at h9
        exact h9
      case e2 =>
        intro _ y
        have ye : e = a + sz := by omega
        have hra := rm_b (f := jX h 396) (t := jX h 394) (a := a) (m := sz) (b := x) hnw (by omega)
        obtain ⟨k', rfl⟩ : ∃ k', k = k' + 1 := ⟨k - 1, by omega⟩
        have hte := ht e (by omega)
        rw [p12, hw]
        have h9 := room a sz x (by omega) (by omega) q8 q9
        rw [← ye] at h9
        refine Ex.mono h9 ?_
        rintro r g ⟨rfl, rfl⟩
        apply bX8_roomOfGroup_53
        case k1 =>
          rw [p12, g1, Int.toNat_natCast, show min sz (c - a) = sz by omega, ← ye, rgf_s (by omega), ← Int.add_assoc]
          have h8 := ih k' e (e + 1) (acc + rm (jX g 396) (jX g 394) nw a x sz) (jX g 394 e) (by omega) (by omega) (by omega) (by omega) (by omega) (by omega) (by omega) hte.1 hte.2
          rw [show ((e + 1 : Nat) : Int) = (e : Int) + 1 by omega] at h8
          exact h8
        case r1 => exact ⟨by omega, by omega⟩
        case s1 => exact h2
        case s2 => rw [p12]; exact g0
        case s3 => rw [p12, g1, g4]
        case s4 => omega
        case s5 => rw [p12, g1, g4]; refine Int.lt_of_le_of_lt (b := 47) ?_ (by decide); omega
        case r2 => exact ⟨by omega, by omega⟩
  have h9 := key c c 0 1 0 b (by omega) (by omega) (by omega) (by omega) (by omega) (Int.le_refl _) (Int.le_refl _) hb0 hb
  rw [Int.zero_add, Nat.zero_add, Nat.sub_zero] at h9
  exact h9
theorem eX9_roomParted {d c sz : Nat} {b : Int} (hM : MK h) (hw : jI h 476 2 = (nw : Int)) (hnw : nw ≤ 6) (hc : jI h 476 45 = (c : Int)) (hc48 : c ≤ 48) (hz1 : 1 ≤ sz) (hz8 : sz ≤ 8) (hb0 : 0 ≤ b) (hb : b ≤ 999)
    (ht : ∀ i, i < c → 0 ≤ jX h 500 i ∧ jX h 500 i ≤ 999 ∧ (if i = 0 then b else jX h 500 (i - 1)) ≤ jX h 500 i) :
    Ex MX9_roomParted (d + 2) [.inr 476, .inl (sz : Int), .inl b] h 0 0 (fun r g => r = some (.inl (grp (jX h 501) (jX h 500) nw c b sz)) ∧ MF (fun b => b = 502) (fun b => b = 47) h g) := by
  have room : ∀ (g : jH) (a m : Nat) (b' : Int), MF (fun b => b = 502) (fun b => b = 47) h g → m ≤ 8 → a + m ≤ c → 0 ≤ b' → b' ≤ 999 → (0 < m → b' ≤ jX h 500 a) → Ex MX9_roomOf (d + 1) [.inr 476, .inl (a : Int), .inl (m : Int), .inl b'] g 0 0 (fun r g2 => r = some (.inl (rm (jX h 501) (jX h 500) nw a b' m)) ∧ MF (fun b => b = 502) (fun b => b = 47) h g2) := by
    intro g a m b' f hm h1 hb0 hb hb2
    have e500 : jX g 500 = jX h 500 := f.2.2.2.2.1 500 (by omega)
    have e501 : jX g 501 = jX h 501 := f.2.2.2.2.1 501 (by omega)
    have h9 := eX9_roomOf (d := d) (a := a) (n := m) (b := b') (nw := nw) (f.mk hM) hm (by omega) (by rw [f.2.2.2.2.2.2 2 (by omega)]; exact hw) hnw hb0 hb (fun i hi => by
      rw [e500]
      have h3 := ht (a + i) (by omega)
      refine ⟨h3.1, h3.2.1, ?_⟩
      by_cases z : i = 0
      · subst z; rw [if_pos rfl]; exact hb2 hi
      · rw [if_neg z]; rw [if_neg (by omega)] at h3; exact h3.2.2)
    rw [e500, e501] at h9
    refine Ex.mono h9 ?_
    rintro r g2 ⟨rfl, f2, -⟩
    exact ⟨rfl, f.trans f2⟩
  refine Ex_of_V tX9_roomParted (Nat.le_of_ble_eq_true rfl) ?_
  apply bX9_roomParted_0
  have hr0 := rm_b (f := jX h 501) (t := jX h 500) (a := 0) (m := min sz c) (b := b) hnw (by omega)
  -- behind the first part
  have key : ∀ k a : Nat, ∀ (acc : Int) (g : jH) u5, MF (fun b => b = 502) (fun b => b = 47) h g → 1 ≤ a → c ≤ a + k → 0 ≤ acc → acc ≤ 400 * (a + 1) → a ≤ 60 → V MX9_roomParted (d + 2) 5 [some (.inr 476), some (.inl (sz : Int)), some (.inl b), some (.inl acc), some (.inl (a : Int)), u5] [] g 0 0 (fun r g' => r = some (.inl (acc + rgf (jX h 501) (jX h 500) nw c sz k a)) ∧ MF (fun b => b = 502) (fun b => b = 47) h g') := by
    intro k
    induction k with
    | zero =>
      intro a acc g u5 f q0 q1 q2 q3 q4
      have e45 : jI g 476 45 = (c : Int) := by rw [f.2.2.2.2.2.2 45 (by omega)]; exact hc
      apply bX9_roomParted_5
      case q1 => intro _ _; rw [rgf_0 (by omega), Int.add_zero]; exact ⟨rfl, f⟩
      all_goals (try rw [e45])
      all_goals first
        | exact (f.mk hM).x
        | (rw [(f.mk hM).p43, (f.mk hM).s500]; done)
        | (intros; omega)
        | (intros; exact ⟨by omega, by omega⟩)
        | (intro _ z; omega)
        | (intros; rw [(f.mk hM).p43, (f.mk hM).s500]; refine Int.lt_of_le_of_lt (b := 47) ?_ (by decide); omega)
        | (intro z; omega)
    | succ k ih =>
      intro a acc g u5 f q0 q1 q2 q3 q4
      have e45 : jI g 476 45 = (c : Int) := by rw [f.2.2.2.2.2.2 45 (by omega)]; exact hc
      have hM2 := f.mk hM
      have e500 : jX g 500 = jX h 500 := f.2.2.2.2.1 500 (by omega)
      by_cases z : a < c
      · have hta := ht a z
        have hra := rm_b (f := jX h 501) (t := jX h 500) (a := a) (m := min sz (c - a)) (b := jX h 500 a) hnw (by omega)
        have nx : ∀ m : Nat, m = min sz (c - a) → Ex MX9_roomOf (d + 1) [.inr 476, .inl (a : Int), .inl (m : Int), .inl (jX g (jP g 476 43) (((a : Int)).toNat))] g 0 0 (fun v h2 => V MX9_roomParted (d + 2) 68 [some (.inr 476), some (.inl (sz : Int)), some (.inl b), some (.inl acc), some (.inl (a : Int)), some (.inl (m : Int))] (v.toList ++ [.inl acc]) h2 0 0 (fun r g' => r = some (.inl (acc + rgf (jX h 501) (jX h 500) nw c sz (k + 1) a)) ∧ MF (fun b => b = 502) (fun b => b = 47) h g')) := by
          rintro m rfl
          rw [hM2.p43, e500, Int.toNat_natCast]
          refine Ex.mono (room g a (min sz (c - a)) (jX h 500 a) f (by omega) (by omega) hta.1 hta.2.1 (fun _ => Int.le_refl _)) ?_
          rintro r g2 ⟨rfl, f2⟩
          apply bX9_roomParted_68
          case k1 =>
            rw [rgf_s z, ← Int.add_assoc, show (a : Int) + (sz : Int) = ((a + sz : Nat) : Int) by omega]
            exact ih (a + sz) _ g2 _ f2 (by omega) (by omega) (by omega) (by omega) (by omega)
          all_goals exact ⟨by omega, by omega⟩
        apply bX9_roomParted_5
        case e1 =>
          rw [e45]
          intro _ y _
          have := nx sz (by omega)
          exact this
        case e3 =>
          rw [e45]
          intro _ y _
          have := nx (c - a) (by omega)
          rw [show ((c - a : Nat) : Int) = (c : Int) - (a : Int) by omega] at this
          exact this
        all_goals (try rw [e45])
        all_goals first
          | exact hM2.x
          | (rw [hM2.p43, hM2.s500]; done)
          | (intros; exact ⟨by omega, by omega⟩)
          | (intros; omega)
          | (intro _ y; omega)
          | (intro _ _ y; omega)
          | (intro y; omega)
          | (intros; rw [hM2.p43, hM2.s500]; refine Int.lt_of_le_of_lt (b := 47) ?_ (by decide); omega)
      · apply bX9_roomParted_5
        case q1 => intro _ _; rw [rgf_0 (by omega), Int.add_zero]; exact ⟨rfl, f⟩
        all_goals (try rw [e45])
        all_goals first
          | exact (f.mk hM).x
          | (rw [(f.mk hM).p43, (f.mk hM).s500]; done)
          | (intros; omega)
          | (intros; exact ⟨by omega, by omega⟩)
          | (intro _ z; omega)
          | (intros; rw [(f.mk hM).p43, (f.mk hM).s500]; refine Int.lt_of_le_of_lt (b := 47) ?_ (by decide); omega)
          | (intro z; omega)
  -- the first part
  have nx : ∀ m : Nat, m = min sz c → Ex MX9_roomOf (d + 1) [.inr 476, .inl 0, .inl (m : Int), .inl b] h 0 0 (fun v h2 => V MX9_roomParted (d + 2) 68 [some (.inr 476), some (.inl (sz : Int)), some (.inl b), some (.inl 0), some (.inl 0), some (.inl (m : Int))] (v.toList ++ [.inl 0]) h2 0 0 (fun r g' => r = some (.inl (grp (jX h 501) (jX h 500) nw c b sz)) ∧ MF (fun b => b = 502) (fun b => b = 47) h g')) := by
    rintro m rfl
    refine Ex.mono (room h 0 (min sz c) b MF.rf (by omega) (by omega) hb0 hb (fun y => by have := ht 0 (by omega); rw [if_pos rfl] at this; exact this.2.2)) ?_
    rintro r g2 ⟨rfl, f2⟩
    apply bX9_roomParted_68
    case k1 =>
      rw [Int.zero_add, Int.zero_add]
      unfold grp
      exact key c sz _ g2 _ f2 (by omega) (by omega) (by omega) (by omega) (by omega)
    all_goals exact ⟨by omega, by omega⟩
  apply bX9_roomParted_5
  case e2 => rw [hc]; intro _ y _; exact nx sz (by omega)
  case e4 =>
    rw [hc]
    intro _ y _
    have := nx c (by omega)
    rw [show (c : Int) - 0 = (c : Int) by omega]
    exact this
  case e6 => rw [hc]; intro y _ y2; omega
  case e8 =>
    rw [hc]
    intro y _ y2 _
    have := nx c (by omega)
    rw [show (c : Int) - 0 = (c : Int) by omega]
    exact this
  all_goals (try rw [hc])
  all_goals first
    | exact hM.x
    | (rw [hM.p43, hM.s500]; done)
    | (intros; exact ⟨by omega, by omega⟩)
    | (intros; omega)
    | (intro _ y; omega)
    | (intro _ _ y; omega)
    | (intro _ _ _ y; omega)
    | (intro y; omega)
    | (intros; rw [hM.p43, hM.s500]; refine Int.lt_of_le_of_lt (b := 47) ?_ (by decide); omega)
end MC
