/-! ===== both sides: which ===== -/
section MG
variable {h g : jH} {node wi sn code cm s past T W : Nat → Int} {n nw nd ns u D o : Nat} {K : Int}
/-- signal k was seen so at the i-th observation -/
def agr (node code cm s : Nat → Int) (n : Nat) (T W : Nat → Int) (k i : Nat) : Prop := (0 ≤ T i ∧ T i ≤ s 0) ∧ nvs node code cm (wv s (T i)) n k = W i
/-- the signals that agree with all observations -/
def ss (node code cm s : Nat → Int) (n : Nat) (T W : Nat → Int) (o a : Nat) : Prop := a < 2 ^ n ∧ ∀ k, k < n → (Nat.testBit a k = true ↔ ∀ i, i < o → agr node code cm s n T W k i)
theorem ss_u {a b : Nat} (h1 : ss node code cm s n T W o a) (h2 : ss node code cm s n T W o b) : a = b := by
  refine Nat.eq_of_testBit_eq (fun k => ?_)
  by_cases q : k < n
  · have e := (h1.2 k q).trans (h2.2 k q).symm
    cases h3 : Nat.testBit a k <;> cases h4 : Nat.testBit b k
    · rfl
    · rw [h3, h4] at e; exact absurd (e.mpr rfl) (by decide)
    · rw [h3, h4] at e; exact absurd (e.mp rfl) (by decide)
    · rfl
  · have h3 : 2 ^ n ≤ 2 ^ k := Nat.pow_le_pow_right (by decide) (by omega)
    rw [Nat.testBit_lt_two_pow (by have := h1.1; omega), Nat.testBit_lt_two_pow (by have := h2.1; omega)]
/-- part of the way: k of the signals are held against the i-th observation -/
def sm (node code cm s : Nat → Int) (n : Nat) (T W : Nat → Int) (i m a : Nat) : Prop := a < 2 ^ n ∧ ∀ k, k < n → (Nat.testBit a k = true ↔ (∀ j, j < i → agr node code cm s n T W k j) ∧ (k < m → agr node code cm s n T W k i))
theorem sm_0 : sm node code cm s n T W 0 0 (2 ^ n - 1) := by
  have := Nat.two_pow_pos n
  refine ⟨by omega, fun k hk => ?_⟩
  rw [Nat.testBit_two_pow_sub_one, decide_eq_true_iff]
  exact ⟨fun _ => ⟨fun j hj => absurd hj (Nat.not_lt_zero _), fun q => absurd q (Nat.not_lt_zero _)⟩, fun _ => hk⟩
theorem sm_next {i a : Nat} (h1 : sm node code cm s n T W i n a) : sm node code cm s n T W (i + 1) 0 a := by
  refine ⟨h1.1, fun k hk => ?_⟩
  rw [h1.2 k hk]
  refine ⟨fun q => ⟨fun j hj => ?_, fun q => absurd q (Nat.not_lt_zero _)⟩, fun q => ⟨fun j hj => q.1 j (by omega), fun _ => q.1 i (by omega)⟩⟩
  by_cases z : j = i
  · rw [z]; exact q.2 hk
  · exact q.1 j (by omega)
theorem sm_y {i m a : Nat} (h1 : sm node code cm s n T W i m a) (hm : agr node code cm s n T W m i) : sm node code cm s n T W i (m + 1) a := by
  refine ⟨h1.1, fun k hk => ?_⟩
  rw [h1.2 k hk]
  refine ⟨fun q => ⟨q.1, fun z => ?_⟩, fun q => ⟨q.1, fun z => q.2 (by omega)⟩⟩
  by_cases y : k = m
  · rw [y]; exact hm
  · exact q.2 (by omega)
theorem sm_n {i m a b : Nat} (h1 : sm node code cm s n T W i m a) (hn : n ≤ 12) (hm : ¬ agr node code cm s n T W m i) (hb : b ≤ a) (hb2 : ∀ j, j < 12 → (Nat.testBit b j = true ↔ Nat.testBit a j = true ∧ j ≠ m)) : sm node code cm s n T W i (m + 1) b := by
  refine ⟨by have := h1.1; omega, fun k hk => ?_⟩
  rw [hb2 k (by omega), h1.2 k hk]
  refine ⟨fun q => ⟨q.1.1, fun z => q.1.2 (by omega)⟩, fun q => ⟨⟨q.1, fun z => q.2 (by omega)⟩, fun y => ?_⟩⟩
  subst y
  exact hm (q.2 (by omega))
theorem sm_ss {a : Nat} (h1 : sm node code cm s n T W o 0 a) : ss node code cm s n T W o a :=
  ⟨h1.1, fun k hk => by rw [h1.2 k hk]; exact ⟨fun q => q.1, fun q => ⟨q, fun z => absurd z (Nat.not_lt_zero _)⟩⟩⟩
theorem pow12 {n a : Nat} (hn : n ≤ 12) (ha : a < 2 ^ n) : a < 4096 := by
  have h2 : 2 ^ n ≤ 2 ^ 12 := Nat.pow_le_pow_right (by decide) hn
  have h5 : (2 : Nat) ^ 12 = 4096 := by decide
  omega
theorem eX8_agreeing {d : Nat} (hI : IV h D node n nw nd wi sn ns code cm s past u K) (ho : jI h 2 10 = (o : Int)) (o6 : o ≤ 6) (hT : ∀ i, i < o → jX h 327 i = T i ∧ jX h 328 i = W i) :
    Ex MX8_agreeing (d + 4) [.inr 2] h 0 0 (fun r g => ∃ a : Nat, r = some (.inl (a : Int)) ∧ XF h g ∧ ss node code cm s n T W o a) := by
  have hn12 := hI.dg.1
  have hp := Nat.two_pow_pos n
  have hp2 : 2 ^ n ≤ 4096 := by have := pow12 (a := 2 ^ n - 1) hn12 (by omega); omega
  have key : ∀ c i : Nat, i + c = o → ∀ (a : Nat) (g : jH) u3, XF h g → sm node code cm s n T W i 0 a → V MX8_agreeing (d + 4) 14 [some (.inr 2), some (.inl (a : Int)), some (.inl (i : Int)), u3] [] g 0 0 (fun r g => ∃ a : Nat, r = some (.inl (a : Int)) ∧ XF h g ∧ ss node code cm s n T W o a) := by
    intro c
    induction c with
    | zero =>
      intro i hi a g u3 xf hsm
      have hJ := hI.xf xf
      have hx := hJ.x
      have ho2 : jI g 2 10 = (o : Int) := by rw [(xf.2.2.2.1 2 (by unfold sc; omega)).2.2 (by omega) (by omega) (by omega)]; exact ho
      apply bX8_agreeing_14
      case q1 => intro _; exact ⟨a, rfl, xf, sm_ss (by rw [show o = i by omega]; exact hsm)⟩
      all_goals (try rw [ho2])
      all_goals first
        | exact hx.s2
        | exact hJ.rk
        | (intro z; omega)
        | (rw [hx.p8, hx.o8.1]; done)
        | (intros; rw [hx.p8, hx.o8.1]; done)
    | succ c ih =>
      intro i hi a g u3 xf hsm
      have hJ := hI.xf xf
      have hx := hJ.x
      have ho2 : jI g 2 10 = (o : Int) := by rw [(xf.2.2.2.1 2 (by unfold sc; omega)).2.2 (by omega) (by omega) (by omega)]; exact ho
      have e327 : jX g 327 = jX h 327 := (xf.2.2.2.1 327 (by unfold sc; omega)).1
      have e328 : jX g 328 = jX h 328 := (xf.2.2.2.1 328 (by unfold sc; omega)).1
      obtain ⟨t1, t2⟩ := hT i (by omega)
      have eT : jX g (jP g 2 8) ((((i : Nat) : Int)).toNat) = T i := by rw [hx.p8, e327, Int.toNat_natCast]; exact t1
      apply bX8_agreeing_14
      case q1 => rw [ho2]; intro z; omega
      case q2 =>
        rw [eT, hJ.t0]
        intro _ q
        refine ⟨0, rfl, xf, hp, fun k hk => ?_⟩
        rw [Nat.zero_testBit]
        exact ⟨fun z => absurd z (by decide), fun z => absurd (z i (by omega)).1 q⟩
      case e1 =>
        rw [eT, hJ.t0]
        intro _ q
        refine Ex.mono (eX8_fillRow hJ) ?_
        rintro r g2 ⟨rfl, xf2, hJ2, hv⟩
        have xf3 := xf.trans xf2
        have hy := hJ2.x
        have e328' : jX g2 328 = jX h 328 := (xf3.2.2.2.1 328 (by unfold sc; omega)).1
        apply bX8_agreeing_47
        have inner : ∀ c m : Nat, m + c = n → ∀ a : Nat, sm node code cm s n T W i m a → V MX8_agreeing (d + 4) 49 [some (.inr 2), some (.inl (a : Int)), some (.inl (i : Int)), some (.inl (m : Int))] [] g2 0 0 (fun r g => ∃ a : Nat, r = some (.inl (a : Int)) ∧ XF h g ∧ ss node code cm s n T W o a) := by
          intro c
          induction c with
          | zero =>
            intro m hm a hs2
            obtain rfl : m = n := by omega
            apply bX8_agreeing_49
            case k1 =>
              intro _
              rw [show (i : Int) + 1 = ((i + 1 : Nat) : Int) by omega]
              exact ih (i + 1) (by omega) a g2 _ xf3 (sm_next hs2)
            all_goals (try rw [hJ2.n0])
            all_goals first
              | exact hy.s2
              | exact hJ2.dk
              | (rw [hy.r13]; done)
              | (rw [hy.p9, hy.o8.2]; done)
              | (intros; exact ⟨by omega, by omega⟩)
              | (intros; omega)
              | (intro z; omega)
          | succ c ih2 =>
            intro m hm a hs2
            have e9 : jX g2 (jP g2 2 9) ((((i : Nat) : Int)).toNat) = W i := by rw [hy.p9, e328', Int.toNat_natCast]; exact t2
            have e13 : jX g2 (jP g2 2 13) ((((m : Nat) : Int)).toNat) = nvs node code cm (wv s (T i)) n m := by rw [hy.p13, Int.toNat_natCast]; exact hv m (by omega)
            have nx := fun a (hs3 : sm node code cm s n T W i (m + 1) a) => ih2 (m + 1) (by omega) a hs3
            apply bX8_agreeing_49
            case k1 => rw [hJ2.n0]; intro z; omega
            case k2 =>
              rw [e9, e13, show (m : Int) + 1 = ((m + 1 : Nat) : Int) by omega]
              intro _ q2
              exact nx a (sm_y hs2 ⟨q, q2⟩)
            case k3 =>
              rw [e9, e13, show (m : Int) + 1 = ((m + 1 : Nat) : Int) by omega]
              intro _ q2
              obtain ⟨b, b1, b2, b3⟩ := and_clr (a := a) (k := m) (pow12 hn12 hs2.1) (by omega)
              rw [b1]
              exact nx b (sm_n hs2 hn12 (fun y => q2 y.2) b2 b3)
            all_goals (try rw [hJ2.n0])
            all_goals first
              | exact hy.s2
              | exact hJ2.dk
              | (rw [hy.r13]; done)
              | (rw [hy.p9, hy.o8.2]; done)
              | (intros; exact ⟨by omega, by omega⟩)
              | (intros; omega)
              | (intros; rw [hy.r13]; refine Int.lt_of_le_of_lt (b := 11) ?_ (by decide); omega)
              | (intros; rw [hy.p9, hy.o8.2]; refine Int.lt_of_le_of_lt (b := 5) ?_ (by decide); omega)
              | (intros; rw [hy.p9, hy.o8.2]; done)
        exact inner n 0 (by omega) a hsm
      all_goals (try rw [ho2])
      all_goals first
        | exact hx.s2
        | exact hJ.rk
        | (rw [hx.p8, hx.o8.1]; done)
        | (intros; rw [hx.p8, hx.o8.1]; done)
        | (intros; omega)
        | (intros; rw [hx.p8, hx.o8.1]; refine Int.lt_of_le_of_lt (b := 5) ?_ (by decide); omega)
  refine Ex_of_V tX8_agreeing (Nat.le_of_ble_eq_true rfl) ?_
  apply bX8_agreeing_0
  case k1 =>
    rw [hI.n0, shl_b n (by omega), show (((2 ^ n : Nat) : Int) - 1) = ((2 ^ n - 1 : Nat) : Int) by omega]
    exact key o 0 (by omega) _ h _ XF.rf sm_0
  case r1 => rw [hI.n0, shl_b n (by omega)]; exact ⟨by omega, by omega⟩
  all_goals first
    | exact hI.x.s2
    | exact hI.dk
theorem eX9_seen {d : Nat} (hI : IV h D node n nw nd wi sn ns code cm s past u K) (ho : jI h 476 49 = (o : Int)) (o6 : o ≤ 6) (hT : ∀ i, i < o → jX h 503 (2 * i) = T i ∧ jX h 503 (2 * i + 1) = W i) :
    Ex MX9_seen (d + 4) [.inr 476] h 0 0 (fun r g => ∃ a : Nat, r = some (.inl (a : Int)) ∧ XF h g ∧ ss node code cm s n T W o a) := by
  have hn12 := hI.dg.1
  have hp := Nat.two_pow_pos n
  have hp2 : 2 ^ n ≤ 4096 := by have := pow12 (a := 2 ^ n - 1) hn12 (by omega); omega
  have key : ∀ c i : Nat, i + c = o → ∀ (a : Nat) (g : jH) u3 u4, XF h g → sm node code cm s n T W i 0 a → V MX9_seen (d + 4) 11 [some (.inr 476), some (.inl (a : Int)), some (.inl (i : Int)), u3, u4] [] g 0 0 (fun r g => ∃ a : Nat, r = some (.inl (a : Int)) ∧ XF h g ∧ ss node code cm s n T W o a) := by
    intro c
    induction c with
    | zero =>
      intro i hi a g u3 u4 xf hsm
      have hJ := hI.xf xf
      have hM := hJ.mk
      have ho2 : jI g 476 49 = (o : Int) := by rw [xf.2.2.2.2.1 49 (by unfold sf; omega)]; exact ho
      apply bX9_seen_11
      case q1 => intro _; exact ⟨a, rfl, xf, sm_ss (by rw [show o = i by omega]; exact hsm)⟩
      all_goals (try rw [ho2])
      all_goals first
        | exact hM.x
        | (rw [hM.p48, hM.s503]; done)
        | (rw [hM.p9, hM.s482]; done)
        | (rw [hM.p9, hM.s482]; decide)
        | (intros; omega)
        | (intro z; omega)
        | (intros; rw [hM.p9, hM.s482]; decide)
    | succ c ih =>
      intro i hi a g u3 u4 xf hsm
      have hJ := hI.xf xf
      have hM := hJ.mk
      have ho2 : jI g 476 49 = (o : Int) := by rw [xf.2.2.2.2.1 49 (by unfold sf; omega)]; exact ho
      have e503 : jX g 503 = jX h 503 := (xf.2.2.2.1 503 (by unfold sc; omega)).1
      obtain ⟨t1, t2⟩ := hT i (by omega)
      have eT : jX g (jP g 476 48) ((2 * (i : Int)).toNat) = T i := by rw [hM.p48, e503, show (2 * (i : Int)).toNat = 2 * i by omega]; exact t1
      -- the signals one by one
      have inner : ∀ (g2 : jH) (th : Prop), XF h g2 → (th ↔ 0 ≤ T i ∧ T i ≤ s 0) → (th → ∀ k, k < n → jX g2 493 k = nvs node code cm (wv s (T i)) n k) → ∀ c m : Nat, m + c = n → ∀ a : Nat, sm node code cm s n T W i m a → ∀ z3 : Int, (z3 = 0 ↔ ¬ th) → V MX9_seen (d + 4) 51 [some (.inr 476), some (.inl (a : Int)), some (.inl (i : Int)), some (.inl z3), some (.inl (m : Int))] [] g2 0 0 (fun r g => ∃ a : Nat, r = some (.inl (a : Int)) ∧ XF h g ∧ ss node code cm s n T W o a) := by
        intro g2 th xf3 hth hv c
        have hJ2 := hI.xf xf3
        have hM2 := hJ2.mk
        have e503' : jX g2 503 = jX h 503 := (xf3.2.2.2.1 503 (by unfold sc; omega)).1
        have e48 : jX g2 (jP g2 476 48) ((2 * (i : Int) + 1).toNat) = W i := by rw [hM2.p48, e503', show (2 * (i : Int) + 1).toNat = 2 * i + 1 by omega]; exact t2
        induction c with
        | zero =>
          intro m hm a hs2 z3 hz3
          obtain rfl : m = n := by omega
          apply bX9_seen_51
          case k1 =>
            intro _
            rw [show (i : Int) + 1 = ((i + 1 : Nat) : Int) by omega]
            exact ih (i + 1) (by omega) a g2 _ _ xf3 (sm_next hs2)
          all_goals (try rw [hJ2.m1])
          all_goals first
            | exact hM2.x
            | (rw [hM2.p36, hM2.s493]; done)
            | (rw [hM2.p48, hM2.s503]; done)
            | (clear hz3 hth; intros; exact ⟨by omega, by omega⟩)
            | (clear hz3 hth; intros; omega)
            | (clear hz3 hth; intro z; omega)
        | succ c ih2 =>
          intro m hm a hs2 z3 hz3
          have nx := fun a (hs3 : sm node code cm s n T W i (m + 1) a) => ih2 (m + 1) (by omega) a hs3 z3 hz3
          have away : ¬ agr node code cm s n T W m i → V MX9_seen (d + 4) 51 [some (.inr 476), some (.inl (jand (a : Int) (jxor (jshl 1 (m : Int)) (-1)))), some (.inl (i : Int)), some (.inl z3), some (.inl ((m : Int) + 1))] [] g2 0 0 (fun r g => ∃ a : Nat, r = some (.inl (a : Int)) ∧ XF h g ∧ ss node code cm s n T W o a) := by
            intro q2
            obtain ⟨b, b1, b2, b3⟩ := and_clr (a := a) (k := m) (pow12 hn12 hs2.1) (by omega)
            rw [b1, show (m : Int) + 1 = ((m + 1 : Nat) : Int) by omega]
            exact nx b (sm_n hs2 hn12 q2 b2 b3)
          have ev : th → jX g2 (jP g2 476 36) ((((m : Nat) : Int)).toNat) = nvs node code cm (wv s (T i)) n m := fun q => by rw [hM2.p36, Int.toNat_natCast]; exact hv q m (by omega)
          have nth : ¬ (z3 = 0) → th := fun q => Classical.byContradiction fun y => q (hz3.mpr y)
          apply bX9_seen_51
          case k1 => rw [hJ2.m1]; clear hz3 hth; intro z; omega
          case k2 => intro _ q; exact away (fun y => (hz3.mp q) (hth.mpr y.1))
          case k3 => rw [e48]; intro _ q q2; rw [ev (nth q)] at q2; exact away (fun y => q2 y.2)
          case k4 =>
            rw [e48]
            intro _ q q2
            rw [ev (nth q)] at q2
            rw [show (m : Int) + 1 = ((m + 1 : Nat) : Int) by omega]
            exact nx a (sm_y hs2 ⟨hth.mp (nth q), q2⟩)
          all_goals clear hz3 hth nth ev away nx
          all_goals (try rw [hJ2.m1])
          all_goals first
            | exact hM2.x
            | (rw [hM2.p36, hM2.s493]; done)
            | (rw [hM2.p48, hM2.s503]; done)
            | (intros; exact ⟨by omega, by omega⟩)
            | (intros; omega)
            | (intros; rw [hM2.p36, hM2.s493]; refine Int.lt_of_le_of_lt (b := 11) ?_ (by decide); omega)
            | (intros; rw [hM2.p48, hM2.s503]; refine Int.lt_of_le_of_lt (b := 11) ?_ (by decide); omega)
      apply bX9_seen_11
      case q1 => rw [ho2]; intro z; omega
      case k1 =>
        rw [eT, hJ.m0]
        intro _ q
        exact inner g _ xf Iff.rfl (fun y => absurd y q) n 0 (by omega) a hsm _ (by unfold jb; rw [if_neg q]; exact ⟨fun _ => q, fun _ => rfl⟩)
      case e1 =>
        rw [eT, hJ.m0]
        intro _ q
        refine Ex.mono (eX9_lay hJ) ?_
        rintro v g2 ⟨rfl, fx2, xf2, hv⟩
        apply bX9_seen_48
        exact inner g2 _ (xf.trans xf2) Iff.rfl (fun _ => hv) n 0 (by omega) a hsm _ (by unfold jb; rw [if_pos q]; exact ⟨fun y => absurd y (by decide), fun y => absurd q y⟩)
      all_goals (try rw [ho2])
      all_goals first
        | exact hM.x
        | (rw [hM.p48, hM.s503]; done)
        | (rw [hM.p9, hM.s482]; done)
        | (rw [hM.p9, hM.s482]; decide)
        | (intros; exact ⟨by omega, by omega⟩)
        | (intros; omega)
        | (intros; rw [hM.p9, hM.s482]; decide)
        | (intros; rw [hM.p48, hM.s503]; refine Int.lt_of_le_of_lt (b := 11) ?_ (by decide); omega)
  refine Ex_of_V tX9_seen (Nat.le_of_ble_eq_true rfl) ?_
  apply bX9_seen_0
  case k1 =>
    rw [hI.m1, shl_b n (by omega), show (((2 ^ n : Nat) : Int) - 1) = ((2 ^ n - 1 : Nat) : Int) by omega]
    exact key o 0 (by omega) _ h _ _ XF.rf sm_0
  case r1 => rw [hI.m1, shl_b n (by omega)]; exact ⟨by omega, by omega⟩
  all_goals exact hI.mk.x
theorem pair_which {d d' : Nat} (hI : IE h K) : Ex MX8_which (d + 5) [.inr 2] h 0 0 (PR MX9_which (d' + 5) [.inr 476] K) := by
  obtain ⟨D, node, n, nw, nd, wi, sn, ns, code, cm, s, past, u, hI⟩ := hI
  obtain ⟨o, o1, o2, o3, o4⟩ : IO h := hI.2.2.2.2.2.2.1
  refine Ex_of_V tX8_which (Nat.le_of_ble_eq_true rfl) ?_
  apply bX8_which_0
  case e1 =>
    refine Ex.mono (eX8_agreeing (T := jX h 327) (W := jX h 328) hI o1 o3 (fun i hi => ⟨rfl, rfl⟩)) ?_
    rintro r g ⟨a, rfl, xf, ha⟩
    apply bX8_which_4
    refine ⟨_, rfl, (hI.xf xf).mk.x, Ex_of_V tX9_which (Nat.le_of_ble_eq_true rfl) ?_⟩
    have hJ := hI.xf xf
    have e503 : jX g 503 = jX h 503 := (xf.2.2.2.1 503 (by unfold sc; omega)).1
    apply bX9_which_0
    case e1 =>
      refine Ex.mono (eX9_seen (T := jX h 327) (W := jX h 328) hJ (by rw [xf.2.2.2.2.1 49 (by unfold sf; omega)]; exact o2) o3 (fun i hi => by rw [e503]; exact ⟨(o4 i hi).1.symm, (o4 i hi).2.1.symm⟩)) ?_
      rintro r g2 ⟨b, rfl, xf2, hb⟩
      apply bX9_which_4
      exact ⟨by rw [ss_u hb ha], (hJ.xf xf2).ie⟩
    all_goals exact hJ.mk.x
  all_goals exact hI.x.s2
end MG
