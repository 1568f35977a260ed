/-! ===== recorded values of the wires ===== -/
section KK
variable {h g : jH} {s node : Nat → Int} {n : Nat} {K : Int}
/-- the block of a time, among the first b blocks -/
def bat (s : Nat → Int) (t : Int) : Nat → Int
  | 0 => -9
  | b + 1 => if s (11 + 33 * b) ≤ t then (if s (11 + 33 * b + 1) ≠ -9 ∧ s (11 + 33 * b + 1) < t then -9 else (b : Int)) else bat s t b
theorem bat_lt (s : Nat → Int) (t : Int) : ∀ b : Nat, bat s t b = -9 ∨ (0 ≤ bat s t b ∧ bat s t b < b)
  | 0 => Or.inl rfl
  | b + 1 => by
    unfold bat
    split
    · split
      · exact Or.inl rfl
      · right; omega
    · rcases bat_lt s t b with q | q
      · exact Or.inl q
      · right; omega
/-- wire w behind the first changes of the block at o that are not after t -/
def wch (s : Nat → Int) (o : Nat) (t : Int) (w : Nat) : Nat → Int
  | 0 => s (o + 3 + w)
  | j + 1 => if s (o + 9 + 3 * j) ≤ t ∧ s (o + 9 + 3 * j + 1) = (w : Int) then s (o + 9 + 3 * j + 2) else wch s o t w j
def wv (s : Nat → Int) (t : Int) (w : Nat) : Int :=
  if bat s t (s 3).toNat = -9 then -7 else wch s (11 + 33 * (bat s t (s 3).toNat).toNat) t w (s (11 + 33 * (bat s t (s 3).toNat).toNat + 2)).toNat
theorem wch_stop {o : Nat} {t : Int} {w i : Nat} : ∀ m, i ≤ m → (∀ j, i ≤ j → j < m → ¬ s (o + 9 + 3 * j) ≤ t) → wch s o t w m = wch s o t w i
  | 0, hm, _ => by rw [show i = 0 by omega]
  | m + 1, hm, hj => by
    by_cases q : i = m + 1
    · rw [q]
    · rw [show wch s o t w (m + 1) = wch s o t w m by
        conv => lhs; unfold wch
        rw [if_neg (fun z => hj m (by omega) (by omega) z.1)]]
      exact wch_stop m (by omega) (fun j h1 h2 => hj j h1 (by omega))
theorem eX6_blockAt {d r : Nat} {t : Int} (hr : SK h r) (br : RB h r) (hs : SI s node n K) (rep : RecRep h r s node n) :
    Ex MX6_blockAt d [.inr r, .inl t] h 0 0 (fun v g => v = some (.inl (bat s t (s 3).toNat)) ∧ g = h) := by
  obtain ⟨a1, a2, a3, a4, a5, a6⟩ := id hr
  obtain ⟨p0, p1, p2, p3, p4, p5, p6⟩ := id rep
  obtain ⟨i0, i1, i2, i3, i4, i5, i6, i7, i8, i9, i10⟩ := id hs
  refine Ex_of_V tX6_blockAt (Nat.le_of_ble_eq_true rfl) ?_
  apply bX6_blockAt_0
  case s1 => exact a1
  case r1 => rw [p4]; exact ⟨by omega, by omega⟩
  have key : ∀ (b : Nat) (u : Option jA), (b : Int) ≤ s 3 → bat s t (s 3).toNat = bat s t b → V MX6_blockAt d 7 [some (.inr r), some (.inl t), some (.inl ((b : Int) - 1)), u] [] h 0 0 (fun v g => v = some (.inl (bat s t (s 3).toNat)) ∧ g = h) := by
    intro b
    induction b with
    | zero =>
      intro u hb e
      rw [e]
      apply bX6_blockAt_7
      case q1 => intro _; exact ⟨rfl, rfl⟩
      all_goals (first | exact a1 | (rw [a2, a4]; done) | (intro q; exact absurd (show ((0 : Nat) : Int) - 1 < 0 by decide) q))
    | succ b ih =>
      intro u hb e
      obtain ⟨j, hj, ej⟩ := br.1 b (by omega)
      have bk := a6 j hj
      have hbr := p6 b (by omega)
      rw [ej] at hbr
      have eb : (((b + 1 : Nat) : Int) - 1) = (b : Int) := by omega
      rw [eb]
      apply bX6_blockAt_7
      case q1 => intro q; omega
      case r1 => intro _ _; exact ⟨by omega, by omega⟩
      case k1 =>
        intro _ q
        rw [Int.toNat_natCast, a2, ej, hbr.1] at q
        rw [show (b : Int) + -1 = (b : Int) - 1 by omega]
        refine ih _ (by omega) ?_
        rw [e]
        conv => lhs; unfold bat
        rw [if_neg (by omega)]
      case q2 =>
        intro _ q q2
        rw [Int.toNat_natCast, a2, ej, hbr.1] at q
        rw [Int.toNat_natCast, a2, ej, hbr.2.1] at q2
        rw [e]
        refine ⟨?_, rfl⟩
        unfold bat
        rw [if_pos (by omega), if_neg (fun z => z.1 q2)]
      case q3 =>
        intro _ q q2 q3
        rw [Int.toNat_natCast, a2, ej, hbr.1] at q
        rw [Int.toNat_natCast, a2, ej, hbr.2.1] at q3
        rw [e]
        refine ⟨?_, rfl⟩
        unfold bat
        rw [if_pos (by omega), if_neg (by omega)]
      case q4 =>
        intro _ q q2 q3
        rw [Int.toNat_natCast, a2, ej, hbr.1] at q
        rw [Int.toNat_natCast, a2, ej, hbr.2.1] at q2 q3
        rw [e]
        refine ⟨?_, rfl⟩
        unfold bat
        rw [if_pos (by omega), if_pos ⟨q2, by omega⟩]
      all_goals (first | exact a1 | (rw [a2, a4]; done) | (intros; rw [Int.toNat_natCast, a2, ej]; exact bk.1) | (intros; rw [a2, a4]; show (b : Int) < 6; omega) | (intros; omega))
  have h9 := key (s 3).toNat none (by omega) rfl
  rw [p4]
  rw [show (((s 3).toNat : Nat) : Int) = s 3 by omega] at h9
  exact h9
/-- the wires' recorded values are laid into a row -/
theorem eX6_fillWires {d r a : Nat} {t : Int} (hr : SK h r) (br : RB h r) (hN : WN node n) (hD : WD node n) (hs : SI s node n K) (rep : RecRep h r s node n) (ha : jS h a = (16, 12)) (hd : a < r ∨ r + 39 ≤ a) :
    Ex MX6_fillWires (d + 1) [.inr r, .inr a, .inl t] h 0 0 (fun v g => v = none ∧ Fr a (a + 1) h g ∧ ∀ k, k < n → node (6 * k) = 0 → jX g a k = wv s t (wr node k)) := by
  obtain ⟨a1, a2, a3, a4, a5, a6⟩ := id hr
  obtain ⟨p0, p1, p2, p3, p4, p5, p6⟩ := id rep
  obtain ⟨i0, i1, i2, i3, i4, i5, i6, i7, i8, i9, i10⟩ := id hs
  have hn12 := hN.1
  refine Ex_of_V tX6_fillWires (Nat.le_of_ble_eq_true rfl) ?_
  apply bX6_fillWires_0
  case s1 => exact a1
  refine Ex.mono (eX6_blockAt hr br hs rep) ?_
  rintro v g ⟨rfl, rfl⟩
  have hbl := bat_lt s t (s 3).toNat
  show V MX6_fillWires (d + 1) 5 _ [.inl (bat s t (s 3).toNat)] g 0 0 _
  by_cases hb9 : bat s t (s 3).toNat = -9
  · have hwv : ∀ w, wv s t w = -7 := fun w => by unfold wv; rw [if_pos hb9]
    apply bX6_fillWires_5
    case k1 => intro q; exact absurd hb9 q
    case e1 =>
      intro _
      refine Ex.mono (eJ7_fill (N := 12) (by rw [ha]) (by rw [ha]) (by omega)) ?_
      rintro v g2 ⟨rfl, rfl⟩
      apply bX6_fillWires_18
      refine ⟨rfl, Fr.fil (by omega) (by omega), fun k hk hw => ?_⟩
      rw [jX_fil, if_pos ⟨rfl, by omega, by omega⟩, hwv]
    all_goals (first | exact a1 | (rw [a2, a4]; done) | (rw [ha]; done) | (intro q; exact absurd hb9 q) | (rw [ha]; decide))
  · obtain ⟨b, hb, hbs⟩ : ∃ b : Nat, bat s t (s 3).toNat = b ∧ (b : Int) < s 3 := ⟨(bat s t (s 3).toNat).toNat, by omega, by omega⟩
    obtain ⟨j, hj, ej⟩ := br.1 b (by omega)
    have bk := a6 j hj
    obtain ⟨b1, b2, b3, b4, b5, b6, b7, b8, b9, b10, b11⟩ := id bk
    have hbr := p6 b hbs
    rw [ej] at hbr
    obtain ⟨q0, q1, q2, q3, q4⟩ := hbr
    have hsb := i10 b hbs
    obtain ⟨c0, c1, c2, c3, c4, c5, c6, c7⟩ := hsb
    obtain ⟨m, hm⟩ : ∃ m : Nat, s (11 + 33 * b + 2) = m := ⟨(s (11 + 33 * b + 2)).toNat, by omega⟩
    have hwv : ∀ w, wv s t w = wch s (11 + 33 * b) t w m := fun w => by
      unfold wv
      rw [if_neg hb9, hb, Int.toNat_natCast, hm, Int.toNat_natCast]
    rw [hb]
    have sorted : ∀ i k : Nat, i ≤ k → k < m → s (11 + 33 * b + 9 + 3 * i) ≤ s (11 + 33 * b + 9 + 3 * k) := by
      intro i k hik
      induction k with
      | zero => intro _; rw [show i = 0 by omega]; exact Int.le_refl _
      | succ k ih =>
        intro hk
        by_cases q : i = k + 1
        · rw [q]; exact Int.le_refl _
        · have e1 := ih (by omega) (by omega)
          have e2 := (c6 k (by omega)).2.2.2.2.1 (by omega)
          omega
    have key : ∀ (k i : Nat) (g2 : jH), i + k = m → Fr a (a + 1) g g2 → (∀ k, k < n → node (6 * k) = 0 → jX g2 a k = wch s (11 + 33 * b) t (wr node k) i) →
        V MX6_fillWires (d + 1) 50 [some (.inr r), some (.inr a), some (.inl t), some (.inl (b : Int)), some (.inr (r + 3 + 6 * j + 2)), some (.inl (i : Int))] [] g2 0 0 (fun v g3 => v = none ∧ Fr a (a + 1) g g3 ∧ ∀ k, k < n → node (6 * k) = 0 → jX g3 a k = wv s t (wr node k)) := by
      intro k
      induction k with
      | zero =>
        intro i g2 hi fr hv
        obtain rfl : i = m := by omega
        have f2 := (fr.2.2.2 (r + 3 + 6 * j + 2) (by omega)).1
        have bk2 := bk.fr fr.1 fr.2.1
        obtain ⟨x1, x2, x3, x4, x5, x6, x7, x8, x9, x10, x11⟩ := bk2
        have hcnt : jI g2 (r + 3 + 6 * j + 2) 0 = (i : Int) := by rw [f2, q2, hm]
        apply bX6_fillWires_50
        case q1 => intro _; exact ⟨rfl, fr, fun k hk hw => by rw [hv k hk hw, hwv]⟩
        all_goals (first | exact x5 | (rw [x6, x9]; done) | (rw [x7, x10]; done) | (rw [x8, x11]; done) | (rw [fr.2.1, ha]; done) | (rw [hcnt]; intro q; exact absurd (Int.le_refl _) q))
      | succ k ih =>
        intro i g2 hi fr hv
        have f2 := (fr.2.2.2 (r + 3 + 6 * j + 2) (by omega)).1
        have f3 := (fr.2.2.2 (r + 3 + 6 * j + 3) (by omega)).2.1
        have f4 := (fr.2.2.2 (r + 3 + 6 * j + 4) (by omega)).2.1
        have f5 := (fr.2.2.2 (r + 3 + 6 * j + 5) (by omega)).2.1
        have bk2 := bk.fr fr.1 fr.2.1
        obtain ⟨x1, x2, x3, x4, x5, x6, x7, x8, x9, x10, x11⟩ := bk2
        have hcnt : jI g2 (r + 3 + 6 * j + 2) 0 = (m : Int) := by rw [f2, q2, hm]
        obtain ⟨e1, e2, k2, e3, e4, e5, e6⟩ := q4 i (by omega)
        have ht : jX g2 (jP g2 (r + 3 + 6 * j + 2) 1) (((i : Nat) : Int)).toNat = s (11 + 33 * b + 9 + 3 * i) := by rw [x6, f3, Int.toNat_natCast]; exact e1
        have hwi : jX g2 (jP g2 (r + 3 + 6 * j + 2) 2) (((i : Nat) : Int)).toNat = (k2 : Int) := by rw [x7, f4, Int.toNat_natCast]; exact e5
        have hva : jX g2 (jP g2 (r + 3 + 6 * j + 2) 3) (((i : Nat) : Int)).toNat = s (11 + 33 * b + 9 + 3 * i + 2) := by rw [x8, f5, Int.toNat_natCast]; exact e2
        apply bX6_fillWires_50
        case q1 => rw [hcnt]; intro q; omega
        case q2 =>
          rw [ht]
          intro _ q
          refine ⟨rfl, fr, fun k hk hw => ?_⟩
          rw [hv k hk hw, hwv]
          exact (wch_stop m (by omega) (fun j' h1 h2 => by have := sorted i j' h1 h2; omega)).symm
        case r1 => intro _ _; exact ⟨by omega, by omega⟩
        case k1 =>
          rw [ht, hwi, hva]
          intro _ q
          rw [show (i : Int) + 1 = ((i + 1 : Nat) : Int) by omega, Int.toNat_natCast]
          refine ih (i + 1) _ (by omega) (fr.trans (Fr.sX (by omega) (by omega))) (fun k hk hw => ?_)
          have hw9 := hN.2 k hk hw
          conv => rhs; unfold wch
          rw [jX_sX]
          by_cases q5 : k = k2
          · subst q5
            rw [if_pos ⟨rfl, rfl⟩, if_pos ⟨by omega, by rw [← e6]; unfold wr; omega⟩]
          · rw [if_neg (fun z => q5 z.2), if_neg (fun z => q5 (hD k k2 hk e3 hw e4 (by rw [e6, z.2]; unfold wr; omega)))]
            exact hv k hk hw
        all_goals (first | exact x5 | (rw [x6, x9]; done) | (rw [x7, x10]; done) | (rw [x8, x11]; done) | (rw [fr.2.1, ha]; done) | (intros; omega) | (intros; rw [x6, x9]; show (i : Int) < 8; omega) | (intros; rw [x7, x10]; show (i : Int) < 8; omega) | (intros; rw [x8, x11]; show (i : Int) < 8; omega) | (rw [hwi]; intros; omega) | (rw [hwi, fr.2.1, ha]; intros; show (k2 : Int) < 12; omega))
    apply bX6_fillWires_5
    case k1 =>
      intro _
      rw [a2, Int.toNat_natCast, ej, b2, b3]
      refine key m 0 _ (by omega) (Fr.cpy (by omega) (by omega)) (fun k hk hw => ?_)
      rw [jX_cpy, if_pos ⟨rfl, by omega, by omega⟩]
      show jX g (r + 3 + 6 * j + 1) (0 + (k - 0)) = _
      rw [Nat.zero_add, Nat.sub_zero]
      exact q3 k hk hw
    case e1 => intro q; omega
    all_goals (first | exact a1 | (rw [a2, a4]; done) | (rw [ha]; done) | (intros; rw [a2, Int.toNat_natCast, ej]; exact b1) | (intros; omega) | (intros; rw [a2, a4]; show (b : Int) < 6; omega) | (intros; rw [a2, Int.toNat_natCast, ej, b2, b4]; done) | (intros; rw [a2, Int.toNat_natCast, ej, b2, b4]; decide) | (rw [ha]; decide) | (intros; rw [ha]; decide))
end KK
