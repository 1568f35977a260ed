/-! ===== both sides: packed, best ===== -/
section MD2
variable {h g : jH} {node wi sn code cm s past : Nat → Int} {n nw nd ns u D : Nat} {K : Int}
/-- a group ends with block b -/
def cls (s : Nat → Int) (b : Nat) : Prop := s (11 + 33 * b + 1) ≠ -9 ∨ (b : Int) = s 3 - 1
/-- before block b: the group's begin, how many changes it has, their times and values -/
def pkb (s : Nat → Int) : Nat → Int
  | 0 => -9
  | b + 1 => if s (11 + 33 * b + 1) ≠ -9 ∨ (b : Int) = s 3 - 1 then -9 else (if pkb s b = -9 then s (11 + 33 * b) else pkb s b)
def pkc (s : Nat → Int) : Nat → Nat
  | 0 => 0
  | b + 1 => if s (11 + 33 * b + 1) ≠ -9 ∨ (b : Int) = s 3 - 1 then 0 else (pkc s b + bM s b)
def pkt (s : Nat → Int) : Nat → Nat → Int
  | 0 => fun _ => 0
  | b + 1 => fun k => if pkc s b ≤ k ∧ k < pkc s b + bM s b then bT s b (k - pkc s b) else pkt s b k
def pkv (s : Nat → Int) : Nat → Nat → Int
  | 0 => fun _ => 0
  | b + 1 => fun k => if pkc s b ≤ k ∧ k < pkc s b + bM s b then bV s b (k - pkc s b) else pkv s b k
/-- behind the changes of block b -/
def pmb (s : Nat → Int) (b : Nat) : Int := if pkb s b = -9 then s (11 + 33 * b) else pkb s b
def pmc (s : Nat → Int) (b : Nat) : Nat := pkc s b + bM s b
def pkr (s : Nat → Int) (nw sz : Nat) : Nat → Int
  | 0 => 0
  | b + 1 => pkr s nw sz b + (if s (11 + 33 * b + 1) ≠ -9 ∨ (b : Int) = s 3 - 1 then grp (pkv s (b + 1)) (pkt s (b + 1)) nw (pmc s b) (pmb s b) sz else 0)
theorem pkb_y {b : Nat} (q : cls s b) : pkb s (b + 1) = -9 := by
  conv => lhs; unfold pkb
  rw [if_pos (show s (11 + 33 * b + 1) ≠ -9 ∨ (b : Int) = s 3 - 1 from q)]
theorem pkb_n {b : Nat} (q : ¬ cls s b) : pkb s (b + 1) = pmb s b := by
  conv => lhs; unfold pkb
  rw [if_neg (show ¬ (s (11 + 33 * b + 1) ≠ -9 ∨ (b : Int) = s 3 - 1) from q)]
  rfl
theorem pkc_y {b : Nat} (q : cls s b) : pkc s (b + 1) = 0 := by
  conv => lhs; unfold pkc
  rw [if_pos (show s (11 + 33 * b + 1) ≠ -9 ∨ (b : Int) = s 3 - 1 from q)]
theorem pkc_n {b : Nat} (q : ¬ cls s b) : pkc s (b + 1) = pmc s b := by
  conv => lhs; unfold pkc
  rw [if_neg (show ¬ (s (11 + 33 * b + 1) ≠ -9 ∨ (b : Int) = s 3 - 1) from q)]
  rfl
theorem pkr_y {b sz : Nat} (q : cls s b) : pkr s nw sz (b + 1) = pkr s nw sz b + grp (pkv s (b + 1)) (pkt s (b + 1)) nw (pmc s b) (pmb s b) sz := by
  conv => lhs; unfold pkr
  rw [if_pos (show s (11 + 33 * b + 1) ≠ -9 ∨ (b : Int) = s 3 - 1 from q)]
theorem pkr_n {b sz : Nat} (q : ¬ cls s b) : pkr s nw sz (b + 1) = pkr s nw sz b := by
  conv => lhs; unfold pkr
  rw [if_neg (show ¬ (s (11 + 33 * b + 1) ≠ -9 ∨ (b : Int) = s 3 - 1) from q), Int.add_zero]
theorem pkt_s {b k : Nat} : pkt s (b + 1) k = if pkc s b ≤ k ∧ k < pkc s b + bM s b then bT s b (k - pkc s b) else pkt s b k := rfl
theorem pkv_s {b k : Nat} : pkv s (b + 1) k = if pkc s b ≤ k ∧ k < pkc s b + bM s b then bV s b (k - pkc s b) else pkv s b k := rfl
/-- the group's changes are in order -/
def pko (s : Nat → Int) (b : Nat) : Prop :=
  pkc s b ≤ 8 * b ∧ (pkb s b = -9 → pkc s b = 0) ∧ (pkb s b ≠ -9 → 0 ≤ pkb s b ∧ pkb s b ≤ s 0 ∧ ((b : Int) < s 3 → pkb s b ≤ s (11 + 33 * b)) ∧ ∀ i, i < pkc s b → 0 ≤ pkt s b i ∧ pkt s b i ≤ s 0 ∧ (if i = 0 then pkb s b else pkt s b (i - 1)) ≤ pkt s b i ∧ ((b : Int) < s 3 → pkt s b i ≤ s (11 + 33 * b)))
theorem bM8 {b : Nat} (hs : SI s node n K) (hb : (b : Int) < s 3) : bM s b ≤ 8 := by
  have := (hs.2.2.2.2.2.2.2.2.2.2 b hb).2.2.2.2.1
  unfold bM
  omega
theorem pko_m {b : Nat} (hs : SI s node n K) (hb : (b : Int) < s 3) (ho : pko s b) : pmc s b ≤ 8 * (b + 1) ∧ 0 ≤ pmb s b ∧ pmb s b ≤ s 0 ∧ (((b + 1 : Nat) : Int) < s 3 → pmb s b ≤ s (11 + 33 * (b + 1))) ∧ ∀ i, i < pmc s b → 0 ≤ pkt s (b + 1) i ∧ pkt s (b + 1) i ≤ s 0 ∧ (if i = 0 then pmb s b else pkt s (b + 1) (i - 1)) ≤ pkt s (b + 1) i ∧ (((b + 1 : Nat) : Int) < s 3 → pkt s (b + 1) i ≤ s (11 + 33 * (b + 1))) := by
  have hm := bM8 hs hb
  have hB := hs.2.2.2.2.2.2.2.2.2.2 b hb
  obtain ⟨b1, b2, b3, b4, b5, b6, b7, b8⟩ := id hB
  obtain ⟨o1, o2, o3⟩ := ho
  unfold pmc
  have hmb : 0 ≤ pmb s b ∧ pmb s b ≤ s 0 ∧ pmb s b ≤ s (11 + 33 * b) := by
    unfold pmb
    split
    · exact ⟨b1, b2, Int.le_refl _⟩
    · rename_i q; exact ⟨(o3 q).1, (o3 q).2.1, (o3 q).2.2.1 hb⟩
  refine ⟨by omega, hmb.1, hmb.2.1, fun q => Int.le_trans hmb.2.2 (b8 q), fun i hi => ?_⟩
  -- the changes of the block itself
  by_cases z : i < pkc s b
  · have hnn : pkb s b ≠ -9 := fun y => by have := o2 y; omega
    have h1 := (o3 hnn).2.2.2 i z
    rw [pkt_s, if_neg (by omega)]
    refine ⟨h1.1, h1.2.1, ?_, fun q => Int.le_trans (h1.2.2.2 hb) (b8 q)⟩
    by_cases y : i = 0
    · rw [if_pos y]
      have := h1.2.2.1
      rw [if_pos y] at this
      unfold pmb
      rw [if_neg hnn]
      exact this
    · rw [if_neg y, pkt_s, if_neg (by omega)]
      have := h1.2.2.1
      rw [if_neg y] at this
      exact this
  · have h1 := hB.tm (i := i - pkc s b) (by omega)
    rw [pkt_s, if_pos (by omega)]
    refine ⟨by omega, h1.2.1, ?_, fun q => ?_⟩
    · by_cases y : i = 0
      · rw [if_pos y]; omega
      · rw [if_neg y, pkt_s]
        by_cases y2 : pkc s b ≤ i - 1 ∧ i - 1 < pkc s b + bM s b
        · rw [if_pos y2]
          have := h1.2.2
          rw [if_neg (by omega), show i - pkc s b - 1 = i - 1 - pkc s b by omega] at this
          exact this
        · rw [if_neg y2]
          have hi0 : i - 1 < pkc s b := by omega
          have hnn : pkb s b ≠ -9 := fun y => by have := o2 y; omega
          have h2 := ((o3 hnn).2.2.2 (i - 1) hi0).2.2.2 hb
          omega
    · exact (b7 (i - pkc s b) (by unfold bM at hi; omega)).2.2.2.2.2.1 q
theorem pko_all (hs : SI s node n K) : ∀ b : Nat, (b : Int) ≤ s 3 → pko s b
  | 0, _ => ⟨Nat.le_refl _, fun _ => rfl, fun q => absurd rfl q⟩
  | b + 1, q => by
    have ih := pko_all hs b (by omega)
    obtain ⟨m1, m2, m3, m4, m5⟩ := pko_m hs (by omega) ih
    by_cases z : cls s b
    · refine ⟨by rw [pkc_y z]; omega, fun _ => pkc_y z, fun y => absurd (pkb_y z) y⟩
    · refine ⟨by rw [pkc_n z]; exact m1, fun y => ?_, fun _ => ?_⟩
      · rw [pkb_n z] at y; omega
      · rw [pkb_n z, pkc_n z]
        exact ⟨m2, m3, m4, m5⟩
theorem grp_b {f t : Nat → Int} {c sz : Nat} {b : Int} (hnw : nw ≤ 6) (hc : c ≤ 48) : 0 ≤ grp f t nw c b sz ∧ grp f t nw c b sz ≤ 300 * 50 := by
  have hr : ∀ k a, 0 ≤ rgf f t nw c sz k a ∧ rgf f t nw c sz k a ≤ 300 * k := by
    intro k
    induction k with
    | zero => intro a; exact ⟨Int.le_refl _, Int.le_refl _⟩
    | succ k ih =>
      intro a
      by_cases z : a < c
      · rw [rgf_s z]
        have h1 := rm_b (f := f) (t := t) (a := a) (m := min sz (c - a)) (b := t a) hnw (by omega)
        have h2 := ih (a + sz)
        omega
      · rw [rgf_0 (by omega)]; omega
  have h1 := rm_b (f := f) (t := t) (a := 0) (m := min sz c) (b := b) hnw (by omega)
  have h2 := hr c sz
  unfold grp
  omega
theorem pkr_b {sz : Nat} (hs : SI s node n K) (hnw : nw ≤ 6) : ∀ b : Nat, (b : Int) ≤ s 3 → 0 ≤ pkr s nw sz b ∧ pkr s nw sz b ≤ 15000 * b
  | 0, _ => ⟨Int.le_refl _, Int.le_refl _⟩
  | b + 1, q => by
    have ih := pkr_b (sz := sz) hs hnw b (by omega)
    have h6 := hs.2.2.2.2.2.2.1
    obtain ⟨m1, m2, m3, m4, m5⟩ := pko_m hs (by omega) (pko_all hs b (by omega))
    by_cases z : cls s b
    · rw [pkr_y z]
      have := grp_b (f := pkv s (b + 1)) (t := pkt s (b + 1)) (b := pmb s b) (sz := sz) (c := pmc s b) hnw (by omega)
      omega
    · rw [pkr_n z]; omega
theorem eX9_packedBy {d sz : Nat} (hM : MK h) (es : jX h 482 = s) (hs : SI s node n K) (hw : jI h 476 2 = (nw : Int)) (hnw : nw ≤ 6) (hz1 : 1 ≤ sz) (hz8 : sz ≤ 8) :
    Ex MX9_packedBy (d + 3) [.inr 476, .inl (sz : Int)] h 0 0 (fun r g => r = some (.inl (pkr s nw sz (s 3).toNat)) ∧ MF (fun b => b = 500 ∨ b = 501 ∨ b = 502) (fun b => b = 45 ∨ b = 47) h g) := by
  have h01 := hs.2.1
  have h5 := hs.2.2.2.2.2.1
  have h6 := hs.2.2.2.2.2.2.1
  refine Ex_of_V tX9_packedBy (Nat.le_of_ble_eq_true rfl) ?_
  apply bX9_packedBy_0
  case k1 =>
    have key : ∀ c i : Nat, i + c = (s 3).toNat → ∀ g, MF (fun b => b = 500 ∨ b = 501 ∨ b = 502) (fun b => b = 45 ∨ b = 47) h g → jI g 476 45 = (pkc s i : Int) → (∀ k, k < pkc s i → jX g 501 k = pkv s i k ∧ jX g 500 k = pkt s i k) → V MX9_packedBy (d + 3) 13 [some (.inr 476), some (.inl (sz : Int)), some (.inl (pkr s nw sz i)), some (.inl (pkb s i)), some (.inl (i : Int))] [] g 0 0 (fun r g => r = some (.inl (pkr s nw sz (s 3).toNat)) ∧ MF (fun b => b = 500 ∨ b = 501 ∨ b = 502) (fun b => b = 45 ∨ b = 47) h g) := by
      intro c
      induction c with
      | zero =>
        intro i hi g f e45 er
        have hM2 := f.mk hM
        have m3 : jX g (jP g 476 9) 3 = s 3 := by rw [hM2.p9, f.2.2.2.2.1 482 (by omega), es]
        apply bX9_packedBy_13
        case q1 => intro _; rw [show i = (s 3).toNat by omega]; exact ⟨rfl, f⟩
        all_goals (try rw [m3])
        all_goals first
          | exact hM2.x
          | (rw [hM2.p9, hM2.s482]; done)
          | (rw [hM2.p9, hM2.s482]; decide)
          | (intro z; omega)
      | succ c ih =>
        intro i hi g f e45 er
        have hM2 := f.mk hM
        have es2 : jX g 482 = s := (f.2.2.2.2.1 482 (by omega)).trans es
        have m3 : jX g (jP g 476 9) 3 = s 3 := by rw [hM2.p9, es2]
        have hb : (i : Int) < s 3 := by omega
        have hB := hs.2.2.2.2.2.2.2.2.2.2 i hb
        have hm8 := bM8 hs hb
        have ho := pko_all hs i (by omega)
        obtain ⟨m1, m2, mm3, m4, m5⟩ := pko_m hs hb ho
        have hpr := pkr_b (sz := sz) (nw := nw) hs hnw i (by omega)
        have ho1 := ho.1
        -- behind the begin
        have add : Ex MX9_addsRow (d + 1) [.inr 476, .inl (i : Int)] g 0 0 (fun v h2 => V MX9_packedBy (d + 3) 51 [some (.inr 476), some (.inl (sz : Int)), some (.inl (pkr s nw sz i)), some (.inl (pmb s i)), some (.inl (i : Int))] (v.toList ++ []) h2 0 0 (fun r g => r = some (.inl (pkr s nw sz (s 3).toNat)) ∧ MF (fun b => b = 500 ∨ b = 501 ∨ b = 502) (fun b => b = 45 ∨ b = 47) h g)) := by
          refine Ex.mono (eX9_addsRow (r := pkc s i) hM2 es2 (by omega) hB.2.2.2.1 hm8 e45 (by unfold pmc at m1; omega)) ?_
          rintro v g2 ⟨rfl, f2, e45', e500, e501⟩
          have f3 := f.trans (f2.wide (fun a ha => by omega) (fun a ha => by omega) : MF (fun b => b = 500 ∨ b = 501 ∨ b = 502) (fun b => b = 45 ∨ b = 47) g g2)
          have hM3 := f3.mk hM
          have es3 : jX g2 482 = s := (f3.2.2.2.2.1 482 (by omega)).trans es
          have m33 : jX g2 (jP g2 476 9) 3 = s 3 := by rw [hM3.p9, es3]
          have er2 : ∀ k, k < pmc s i → jX g2 501 k = pkv s (i + 1) k ∧ jX g2 500 k = pkt s (i + 1) k := by
            intro k hk
            rw [e500, e501, pkv_s, pkt_s]
            by_cases z : pkc s i ≤ k ∧ k < pkc s i + bM s i
            · rw [if_pos z, if_pos z, if_pos z, if_pos z]; exact ⟨rfl, rfl⟩
            · rw [if_neg z, if_neg z, if_neg z, if_neg z]; exact er k (by unfold pmc at hk; omega)
          have eE : jX g2 (jP g2 476 9) ((11 + 33 * (i : Int) + 1).toNat) = s (11 + 33 * i + 1) := by rw [hM3.p9, es3, show (11 + 33 * (i : Int) + 1).toNat = 11 + 33 * i + 1 by omega]
          have part : cls s i → Ex MX9_roomParted (d + 2) [.inr 476, .inl (sz : Int), .inl (pmb s i)] g2 0 0 (fun v h2 => V MX9_packedBy (d + 3) 88 [some (.inr 476), some (.inl (sz : Int)), some (.inl (pkr s nw sz i)), some (.inl (pmb s i)), some (.inl (i : Int))] (v.toList ++ [.inl (pkr s nw sz i)]) h2 0 0 (fun r g => r = some (.inl (pkr s nw sz (s 3).toNat)) ∧ MF (fun b => b = 500 ∨ b = 501 ∨ b = 502) (fun b => b = 45 ∨ b = 47) h g)) := by
            intro hc
            refine Ex.mono (eX9_roomParted (nw := nw) (c := pmc s i) (b := pmb s i) hM3 (by rw [f3.2.2.2.2.2.2 2 (by omega)]; exact hw) hnw e45' (by omega) hz1 hz8 m2 (by omega) (fun k hk => ?_)) ?_
            · have h1 := m5 k hk
              rw [(er2 k hk).2]
              refine ⟨h1.1, by omega, ?_⟩
              by_cases z : k = 0
              · rw [if_pos z]; have := h1.2.2.1; rw [if_pos z] at this; exact this
              · rw [if_neg z, (er2 (k - 1) (by omega)).2]; have := h1.2.2.1; rw [if_neg z] at this; exact this
            · rintro r g4 ⟨rfl, f4⟩
              have f5 := f3.trans (f4.wide (fun a ha => by omega) (fun a ha => by omega) : MF (fun b => b = 500 ∨ b = 501 ∨ b = 502) (fun b => b = 45 ∨ b = 47) g2 g4)
              rw [grp_cong er2]
              have hg := grp_b (f := pkv s (i + 1)) (t := pkt s (i + 1)) (b := pmb s i) (sz := sz) (c := pmc s i) hnw (by omega)
              apply bX9_packedBy_88
              case k1 =>
                have h9 := ih (i + 1) (by omega) (jsI g4 476 45 0) (f5.trans (MF.sI (Or.inl rfl))) (by rw [jI_sI, if_pos ⟨rfl, rfl⟩, pkc_y hc]; rfl) (fun k hk => by rw [pkc_y hc] at hk; omega)
                rw [pkr_y hc, pkb_y hc, show ((i + 1 : Nat) : Int) = (i : Int) + 1 by omega] at h9
                exact h9
              all_goals first
                | exact (f5.mk hM).x
                | exact ⟨by omega, by omega⟩
          apply bX9_packedBy_51
          case e1 => rw [eE]; intro z; exact part (Or.inl z)
          case e2 => rw [m33]; intro _ z; exact part (Or.inr z)
          case k1 =>
            rw [eE, m33]
            intro z1 z2
            have hc : ¬ cls s i := fun y => y.elim (fun y => y z1) z2
            have h9 := ih (i + 1) (by omega) g2 f3 (by rw [e45', pkc_n hc]; rfl) (fun k hk => er2 k (by rw [pkc_n hc] at hk; exact hk))
            rw [pkr_n hc, pkb_n hc, show ((i + 1 : Nat) : Int) = (i : Int) + 1 by omega] at h9
            exact h9
          all_goals (try rw [m33])
          all_goals first
            | exact hM3.x
            | (rw [hM3.p9, hM3.s482]; done)
            | (rw [hM3.p9, hM3.s482]; decide)
            | exact ⟨by omega, by omega⟩
            | (intros; exact ⟨by omega, by omega⟩)
            | omega
            | (intros; omega)
            | (intros; rw [hM3.p9, hM3.s482]; decide)
            | (rw [hM3.p9, hM3.s482]; refine Int.lt_of_le_of_lt (b := 208) ?_ (by decide); omega)
        apply bX9_packedBy_13
        case q1 => rw [m3]; intro z; omega
        case e1 =>
          intro _ z
          have : pmb s i = pkb s i := if_neg z
          rw [this] at add
          exact add
        case e2 =>
          intro _ z
          rw [hM2.p9, es2, show (11 + 33 * (i : Int)).toNat = 11 + 33 * i by omega]
          have : pmb s i = s (11 + 33 * i) := if_pos z
          rw [this] at add
          exact add
        all_goals (try rw [m3])
        all_goals first
          | exact hM2.x
          | (rw [hM2.p9, hM2.s482]; done)
          | (rw [hM2.p9, hM2.s482]; decide)
          | (intros; omega)
          | (intros; rw [hM2.p9, hM2.s482]; refine Int.lt_of_le_of_lt (b := 208) ?_ (by decide); omega)
    exact key (s 3).toNat 0 (by omega) _ (MF.sI (Or.inl rfl)) (by rw [jI_sI, if_pos ⟨rfl, rfl⟩]; rfl) (fun k hk => absurd hk (Nat.not_lt_zero _))
  all_goals first
    | exact hM.x
end MD2
