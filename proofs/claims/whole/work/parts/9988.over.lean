/-! ===== model: what was told takes over, and all begins anew ===== -/
section NE
variable {h g h0 g1 gE : jH} {b : Nat → Int} {c : Nat} {node wi sn code cm node' wi' sn' code' cm' s s' : Nat → Int} {n nw nd ns D d p q f r : Nat} {op x K : Int} {R : Option jA → jH → Prop}
theorem eX9_tells (hT : TXM g b c) (k : ∀ g', MI g g' b c (tsk b c 0) z00 0 0 0 z00 z00 0 z00 z00 (-9) → V MX9_tells (d + 9) 48 [some (.inr 476), some (.inl 0)] [] g' 0 0 R) : Ex MX9_tells (d + 9) [.inr 476] g 0 0 R := by
  have hM := hT.1
  refine Ex_of_V tX9_tells (Nat.le_of_ble_eq_true rfl) ?_
  apply bX9_tells_0
  case e1 =>
    generalize hgg : jsI (jsI (jsI (jsI (jsI (jsI (jsI (jsI g 476 16 0) 476 20 (-9)) 476 22 0) 476 23 0) 476 24 0) 476 27 0) 476 30 (-9)) 476 31 0 = gg
    have f0 : MF PP PFd g gg := by
      rw [← hgg]
      exact (((((((MF.sI (by unfold PFd; omega)).trans (MF.sI (by unfold PFd; omega))).trans (MF.sI (by unfold PFd; omega))).trans (MF.sI (by unfold PFd; omega))).trans (MF.sI (by unfold PFd; omega))).trans (MF.sI (by unfold PFd; omega))).trans (MF.sI (by unfold PFd; omega))).trans (MF.sI (by unfold PFd; omega))
    have v : ∀ k, jI gg 476 k = if k = 31 then 0 else if k = 30 then -9 else if k = 27 then 0 else if k = 24 then 0 else if k = 23 then 0 else if k = 22 then 0 else if k = 20 then -9 else if k = 16 then 0 else jI g 476 k := by
      intro k
      rw [← hgg]
      simp only [jI_sI, true_and]
    have hT2 : TXM gg b c := hT.mf f0 (by unfold PP; omega) (by unfold PFd; omega)
    refine Ex.mono (eX9_next (e := 0) hT2 (Nat.zero_le c) (by rw [v]; rfl)) ?_
    rintro r g2 ⟨rfl, f2, hq⟩
    have e : ∀ k, 19 < k → jI g2 476 k = jI gg 476 k := fun k hk => f2.2.2.2.2.2.2 k (by unfold nuF; omega)
    refine k g2 ⟨f0.trans (f2.wide (fun a ha => ha.elim) (fun k hk => by unfold nuF at hk; unfold PFd; omega)), hq, by rw [e 20 (by omega), v]; rfl, ⟨by rw [e 22 (by omega), v]; rfl, by rw [e 27 (by omega), v]; rfl, fun k hk => by omega, fun k hk => by omega⟩, by rw [e 23 (by omega), v]; rfl, by rw [e 24 (by omega), v]; rfl, by rw [e 30 (by omega), v]; rfl, by rw [e 31 (by omega), v]; rfl, fun w hw => by omega, fun k hk => by omega⟩
  all_goals exact hM.x
def TKP (a : Nat) : Prop := 477 ≤ a ∧ a ≤ 481
def TKF (k : Nat) : Prop := k = 1 ∨ k = 2 ∨ k = 3 ∨ k = 6
theorem eX9_takesOver (hM : MK h) : Ex MX9_takesOver d [.inr 476] h 0 0 (fun r g => r = none ∧ MF TKP TKF h g ∧ jI g 476 1 = jI h 476 22 ∧ jI g 476 2 = jI h 476 23 ∧ jI g 476 3 = jI h 476 24 ∧ jI g 476 6 = jI h 476 27 ∧ (∀ k, k < 72 → jX g 477 k = jX h 487 k) ∧ (∀ k, k < 6 → jX g 478 k = jX h 488 k ∧ jX g 479 k = jX h 489 k) ∧ (∀ k, k < 160 → jX g 480 k = jX h 490 k) ∧ ∀ k, k < 4 → jX g 481 k = jX h 491 k) := by
  refine Ex_of_V tX9_takesOver (Nat.le_of_ble_eq_true rfl) ?_
  apply bX9_takesOver_0
  case k1 =>
    generalize hgg : jsI (jsI (jsI (jsI h 476 1 (jI h 476 22)) 476 2 (jI h 476 23)) 476 3 (jI h 476 24)) 476 6 (jI h 476 27) = gg
    have f0 : MF TKP TKF h gg := by
      rw [← hgg]
      exact (((MF.sI (by unfold TKF; omega)).trans (MF.sI (by unfold TKF; omega))).trans (MF.sI (by unfold TKF; omega))).trans (MF.sI (by unfold TKF; omega))
    have v : ∀ k, jI gg 476 k = if k = 6 then jI h 476 27 else if k = 3 then jI h 476 24 else if k = 2 then jI h 476 23 else if k = 1 then jI h 476 22 else jI h 476 k := by
      intro k
      rw [← hgg]
      simp only [jI_sI, true_and]
    have w1 : jI gg 476 1 = jI h 476 22 := by rw [v]; rfl
    have w2 : jI gg 476 2 = jI h 476 23 := by rw [v]; rfl
    have w3 : jI gg 476 3 = jI h 476 24 := by rw [v]; rfl
    have w6 : jI gg 476 6 = jI h 476 27 := by rw [v]; rfl
    -- the four rows
    have l4 : ∀ w i : Nat, i + w = 4 → ∀ g : jH, MF TKP TKF h g → jI g 476 = jI gg 476 → (∀ k, k < 72 → jX g 477 k = jX h 487 k) → (∀ k, k < 6 → jX g 478 k = jX h 488 k ∧ jX g 479 k = jX h 489 k) → (∀ k, k < 160 → jX g 480 k = jX h 490 k) → (∀ k, k < i → jX g 481 k = jX h 491 k) → V MX9_takesOver d 125 [some (.inr 476), some (.inl (i : Int))] [] g 0 0 (fun r g => r = none ∧ MF TKP TKF h g ∧ jI g 476 1 = jI h 476 22 ∧ jI g 476 2 = jI h 476 23 ∧ jI g 476 3 = jI h 476 24 ∧ jI g 476 6 = jI h 476 27 ∧ (∀ k, k < 72 → jX g 477 k = jX h 487 k) ∧ (∀ k, k < 6 → jX g 478 k = jX h 488 k ∧ jX g 479 k = jX h 489 k) ∧ (∀ k, k < 160 → jX g 480 k = jX h 490 k) ∧ ∀ k, k < 4 → jX g 481 k = jX h 491 k) := by
      intro w
      induction w with
      | zero =>
        intro i hi g fm ei x1 x2 x3 x4
        obtain rfl : i = 4 := by omega
        have hM2 := fm.mk hM
        apply bX9_takesOver_125
        case q1 => intro _; exact ⟨rfl, fm, by rw [ei]; exact w1, by rw [ei]; exact w2, by rw [ei]; exact w3, by rw [ei]; exact w6, x1, x2, x3, x4⟩
        case k1 => intro z; omega
        all_goals first
          | exact hM2.x
          | (rw [hM2.p8, hM2.s481]; done)
          | (rw [hM2.p29, hM2.s491]; done)
          | (intro z; omega)
      | succ w ih =>
        intro i hi g fm ei x1 x2 x3 x4
        have hM2 := fm.mk hM
        have e4 : jX g 491 = jX h 491 := fm.2.2.2.2.1 491 (by unfold TKP; omega)
        apply bX9_takesOver_125
        case q1 => intro z; omega
        case k1 =>
          intro _
          rw [hM2.p8, hM2.p29, e4, Int.toNat_natCast, show (i : Int) + 1 = ((i + 1 : Nat) : Int) by omega]
          refine ih (i + 1) (by omega) _ (fm.trans (MF.sX (by unfold TKP; omega))) ei (fun k hk => by rw [jX_sX, if_neg (by omega)]; exact x1 k hk) (fun k hk => by rw [jX_sX, if_neg (by omega), jX_sX, if_neg (by omega)]; exact x2 k hk) (fun k hk => by rw [jX_sX, if_neg (by omega)]; exact x3 k hk) (fun k hk => ?_)
          rw [jX_sX]
          by_cases z : k = i
          · rw [if_pos ⟨rfl, z⟩, z]
          · rw [if_neg (fun y => z y.2)]; exact x4 k (by omega)
        all_goals first
          | exact hM2.x
          | (rw [hM2.p8, hM2.s481]; done)
          | (rw [hM2.p29, hM2.s491]; done)
          | (intros; exact ⟨by omega, by omega⟩)
          | (intros; omega)
          | (intros; rw [hM2.p8, hM2.s481]; refine Int.lt_of_le_of_lt (b := 3) ?_ (by decide); omega)
          | (intros; rw [hM2.p29, hM2.s491]; refine Int.lt_of_le_of_lt (b := 3) ?_ (by decide); omega)
    have l3 : ∀ w i : Nat, i + w = 160 → ∀ g : jH, MF TKP TKF h g → jI g 476 = jI gg 476 → (∀ k, k < 72 → jX g 477 k = jX h 487 k) → (∀ k, k < 6 → jX g 478 k = jX h 488 k ∧ jX g 479 k = jX h 489 k) → (∀ k, k < i → jX g 480 k = jX h 490 k) → V MX9_takesOver d 98 [some (.inr 476), some (.inl (i : Int))] [] g 0 0 (fun r g => r = none ∧ MF TKP TKF h g ∧ jI g 476 1 = jI h 476 22 ∧ jI g 476 2 = jI h 476 23 ∧ jI g 476 3 = jI h 476 24 ∧ jI g 476 6 = jI h 476 27 ∧ (∀ k, k < 72 → jX g 477 k = jX h 487 k) ∧ (∀ k, k < 6 → jX g 478 k = jX h 488 k ∧ jX g 479 k = jX h 489 k) ∧ (∀ k, k < 160 → jX g 480 k = jX h 490 k) ∧ ∀ k, k < 4 → jX g 481 k = jX h 491 k) := by
      intro w
      induction w with
      | zero =>
        intro i hi g fm ei x1 x2 x3
        obtain rfl : i = 160 := by omega
        have hM2 := fm.mk hM
        apply bX9_takesOver_98
        case k1 => intro _; exact l4 4 0 (by omega) g fm ei x1 x2 x3 (fun k hk => absurd hk (Nat.not_lt_zero _))
        case k2 => intro z; omega
        all_goals first
          | exact hM2.x
          | (rw [hM2.p7, hM2.s480]; done)
          | (rw [hM2.p28, hM2.s490]; done)
          | (intro z; omega)
      | succ w ih =>
        intro i hi g fm ei x1 x2 x3
        have hM2 := fm.mk hM
        have e4 : jX g 490 = jX h 490 := fm.2.2.2.2.1 490 (by unfold TKP; omega)
        apply bX9_takesOver_98
        case k1 => intro z; omega
        case k2 =>
          intro _
          rw [hM2.p7, hM2.p28, e4, Int.toNat_natCast, show (i : Int) + 1 = ((i + 1 : Nat) : Int) by omega]
          refine ih (i + 1) (by omega) _ (fm.trans (MF.sX (by unfold TKP; omega))) ei (fun k hk => by rw [jX_sX, if_neg (by omega)]; exact x1 k hk) (fun k hk => by rw [jX_sX, if_neg (by omega), jX_sX, if_neg (by omega)]; exact x2 k hk) (fun k hk => ?_)
          rw [jX_sX]
          by_cases z : k = i
          · rw [if_pos ⟨rfl, z⟩, z]
          · rw [if_neg (fun y => z y.2)]; exact x3 k (by omega)
        all_goals first
          | exact hM2.x
          | (rw [hM2.p7, hM2.s480]; done)
          | (rw [hM2.p28, hM2.s490]; done)
          | (intros; exact ⟨by omega, by omega⟩)
          | (intros; omega)
          | (intros; rw [hM2.p7, hM2.s480]; refine Int.lt_of_le_of_lt (b := 159) ?_ (by decide); omega)
          | (intros; rw [hM2.p28, hM2.s490]; refine Int.lt_of_le_of_lt (b := 159) ?_ (by decide); omega)
    have l2 : ∀ w i : Nat, i + w = 6 → ∀ g : jH, MF TKP TKF h g → jI g 476 = jI gg 476 → (∀ k, k < 72 → jX g 477 k = jX h 487 k) → (∀ k, k < i → jX g 478 k = jX h 488 k ∧ jX g 479 k = jX h 489 k) → V MX9_takesOver d 60 [some (.inr 476), some (.inl (i : Int))] [] g 0 0 (fun r g => r = none ∧ MF TKP TKF h g ∧ jI g 476 1 = jI h 476 22 ∧ jI g 476 2 = jI h 476 23 ∧ jI g 476 3 = jI h 476 24 ∧ jI g 476 6 = jI h 476 27 ∧ (∀ k, k < 72 → jX g 477 k = jX h 487 k) ∧ (∀ k, k < 6 → jX g 478 k = jX h 488 k ∧ jX g 479 k = jX h 489 k) ∧ (∀ k, k < 160 → jX g 480 k = jX h 490 k) ∧ ∀ k, k < 4 → jX g 481 k = jX h 491 k) := by
      intro w
      induction w with
      | zero =>
        intro i hi g fm ei x1 x2
        obtain rfl : i = 6 := by omega
        have hM2 := fm.mk hM
        apply bX9_takesOver_60
        case k1 => intro _; exact l3 160 0 (by omega) g fm ei x1 x2 (fun k hk => absurd hk (Nat.not_lt_zero _))
        case k2 => intro z; omega
        all_goals first
          | exact hM2.x
          | (rw [hM2.p4, hM2.s478]; done)
          | (rw [hM2.p5, hM2.s479]; done)
          | (rw [hM2.p25, hM2.s488]; done)
          | (rw [hM2.p26, hM2.s489]; done)
          | (intro z; omega)
      | succ w ih =>
        intro i hi g fm ei x1 x2
        have hM2 := fm.mk hM
        have e4 : jX g 488 = jX h 488 := fm.2.2.2.2.1 488 (by unfold TKP; omega)
        have e5 : jX g 489 = jX h 489 := fm.2.2.2.2.1 489 (by unfold TKP; omega)
        have e6 : ∀ v, jX (jsX g 478 i v) 489 = jX g 489 := fun v => funext fun k => by rw [jX_sX, if_neg (by omega)]
        apply bX9_takesOver_60
        case k1 => intro z; omega
        case k2 =>
          intro _
          rw [hM2.p4, hM2.p5, hM2.p25, hM2.p26, Int.toNat_natCast, e6, e4, e5, show (i : Int) + 1 = ((i + 1 : Nat) : Int) by omega]
          refine ih (i + 1) (by omega) _ ((fm.trans (MF.sX (by unfold TKP; omega))).trans (MF.sX (by unfold TKP; omega))) ei (fun k hk => by rw [jX_sX, if_neg (by omega), jX_sX, if_neg (by omega)]; exact x1 k hk) (fun k hk => ?_)
          rw [jX_sX, if_neg (show ¬ (478 = 479 ∧ k = i) by omega), jX_sX, jX_sX]
          by_cases z : k = i
          · rw [if_pos ⟨rfl, z⟩, if_pos ⟨rfl, z⟩, z]; exact ⟨rfl, rfl⟩
          · rw [if_neg (fun y => z y.2), if_neg (fun y => z y.2), jX_sX, if_neg (by omega)]; exact x2 k (by omega)
        all_goals first
          | exact hM2.x
          | (rw [hM2.p4, hM2.s478]; done)
          | (rw [hM2.p5, hM2.s479]; done)
          | (rw [hM2.p25, hM2.s488]; done)
          | (rw [hM2.p26, hM2.s489]; done)
          | (intros; exact ⟨by omega, by omega⟩)
          | (intros; omega)
          | (intros; rw [hM2.p4, hM2.s478]; refine Int.lt_of_le_of_lt (b := 5) ?_ (by decide); omega)
          | (intros; rw [hM2.p5, hM2.s479]; refine Int.lt_of_le_of_lt (b := 5) ?_ (by decide); omega)
          | (intros; rw [hM2.p25, hM2.s488]; refine Int.lt_of_le_of_lt (b := 5) ?_ (by decide); omega)
          | (intros; rw [hM2.p26, hM2.s489]; refine Int.lt_of_le_of_lt (b := 5) ?_ (by decide); omega)
    have l1 : ∀ w i : Nat, i + w = 72 → ∀ g : jH, MF TKP TKF h g → jI g 476 = jI gg 476 → (∀ k, k < i → jX g 477 k = jX h 487 k) → V MX9_takesOver d 34 [some (.inr 476), some (.inl (i : Int))] [] g 0 0 (fun r g => r = none ∧ MF TKP TKF h g ∧ jI g 476 1 = jI h 476 22 ∧ jI g 476 2 = jI h 476 23 ∧ jI g 476 3 = jI h 476 24 ∧ jI g 476 6 = jI h 476 27 ∧ (∀ k, k < 72 → jX g 477 k = jX h 487 k) ∧ (∀ k, k < 6 → jX g 478 k = jX h 488 k ∧ jX g 479 k = jX h 489 k) ∧ (∀ k, k < 160 → jX g 480 k = jX h 490 k) ∧ ∀ k, k < 4 → jX g 481 k = jX h 491 k) := by
      intro w
      induction w with
      | zero =>
        intro i hi g fm ei x1
        obtain rfl : i = 72 := by omega
        have hM2 := fm.mk hM
        apply bX9_takesOver_34
        case k1 => intro _; exact l2 6 0 (by omega) g fm ei x1 (fun k hk => absurd hk (Nat.not_lt_zero _))
        case k2 => intro z; omega
        all_goals first
          | exact hM2.x
          | (rw [hM2.p0, hM2.s477]; done)
          | (rw [hM2.p21, hM2.s487]; done)
          | (intro z; omega)
      | succ w ih =>
        intro i hi g fm ei x1
        have hM2 := fm.mk hM
        have e4 : jX g 487 = jX h 487 := fm.2.2.2.2.1 487 (by unfold TKP; omega)
        apply bX9_takesOver_34
        case k1 => intro z; omega
        case k2 =>
          intro _
          rw [hM2.p0, hM2.p21, e4, Int.toNat_natCast, show (i : Int) + 1 = ((i + 1 : Nat) : Int) by omega]
          refine ih (i + 1) (by omega) _ (fm.trans (MF.sX (by unfold TKP; omega))) ei (fun k hk => ?_)
          rw [jX_sX]
          by_cases z : k = i
          · rw [if_pos ⟨rfl, z⟩, z]
          · rw [if_neg (fun y => z y.2)]; exact x1 k (by omega)
        all_goals first
          | exact hM2.x
          | (rw [hM2.p0, hM2.s477]; done)
          | (rw [hM2.p21, hM2.s487]; done)
          | (intros; exact ⟨by omega, by omega⟩)
          | (intros; omega)
          | (intros; rw [hM2.p0, hM2.s477]; refine Int.lt_of_le_of_lt (b := 71) ?_ (by decide); omega)
          | (intros; rw [hM2.p21, hM2.s487]; refine Int.lt_of_le_of_lt (b := 71) ?_ (by decide); omega)
    exact l1 72 0 (by omega) gg f0 rfl (fun k hk => absurd hk (Nat.not_lt_zero _))
  all_goals exact hM.x
/-- rows of numbers that agree where they count -/
theorem bnw_cong (h3 : s 3 = 0) (he : ∀ k, k < 209 → s' k = s k) : ∀ k, k < 209 → bnw s' k = bnw s k := by
  intro k hk
  unfold bnw
  rw [he 3 (by omega), h3, he 0 (by omega)]
  by_cases z : 11 + 33 * (0 : Int).toNat + 3 ≤ k ∧ k < 11 + 33 * (0 : Int).toNat + 9
  · rw [if_pos z, if_pos z, he _ (by omega)]
  · rw [if_neg z, if_neg z, he k hk]
theorem eX9_begins (hM : MK h) : Ex MX9_begins (d + 2) [.inr 476] h 0 0 (fun r g => r = none ∧ MF (fun a => a = 482 ∨ a = 485) (fun k => k = 11 ∨ k = 49) h g ∧ (∀ k, k < 209 → jX g 482 k = s00 k) ∧ jI g 476 11 = 0 ∧ jI g 476 49 = 0 ∧ jX g 485 0 = 0 ∧ jX g 485 1 = 0) := by
  refine Ex_of_V tX9_begins (Nat.le_of_ble_eq_true rfl) ?_
  apply bX9_begins_0
  have key : ∀ w i : Nat, i + w = 209 → ∀ g : jH, MF (fun a => a = 482 ∨ a = 485) (fun k => k = 11 ∨ k = 49) h g → (∀ k, k < i → jX g 482 k = 0) → V MX9_begins (d + 2) 2 [some (.inr 476), some (.inl (i : Int))] [] g 0 0 (fun r g => r = none ∧ MF (fun a => a = 482 ∨ a = 485) (fun k => k = 11 ∨ k = 49) h g ∧ (∀ k, k < 209 → jX g 482 k = s00 k) ∧ jI g 476 11 = 0 ∧ jI g 476 49 = 0 ∧ jX g 485 0 = 0 ∧ jX g 485 1 = 0) := by
    intro w
    induction w with
    | zero =>
      intro i hi g fm hz
      obtain rfl : i = 209 := by omega
      have hM2 := fm.mk hM
      apply bX9_begins_2
      case e1 =>
        intro _
        rw [hM2.p9]
        have f2 : MF (fun a => a = 482 ∨ a = 485) (fun k => k = 11 ∨ k = 49) h (jsX (jsX g 482 1 1) 482 2 4) := (fm.trans (MF.sX (Or.inl rfl))).trans (MF.sX (Or.inl rfl))
        have hM3 := f2.mk hM
        have e : ∀ k, k < 209 → jX (jsX (jsX g 482 1 1) 482 2 4) 482 k = if k = 1 then 1 else if k = 2 then 4 else 0 := fun k hk => by
          rw [jX_sX, jX_sX]
          by_cases z2 : k = 2
          · rw [if_pos ⟨rfl, z2⟩, if_neg (by omega), if_pos z2]
          · rw [if_neg (fun y => z2 y.2)]
            by_cases z1 : k = 1
            · rw [if_pos ⟨rfl, z1⟩, if_pos z1]
            · rw [if_neg (fun y => z1 y.2), if_neg z1, if_neg z2, hz k hk]
        have e3 := e 3 (by omega)
        have e4 := e 4 (by omega)
        refine Ex.mono (eX9_blockBegins (s := jX (jsX (jsX g 482 1 1) 482 2 4) 482) hM3 rfl (by rw [e3]; decide) (by rw [e3]; decide) (by rw [e4]; decide) (by rw [e4]; decide)) ?_
        rintro r g2 ⟨rfl, fx, eb⟩
        have hM4 := hM3.fr fx.2.1 fx.2.2.2.1
        have f3 : MF (fun a => a = 482 ∨ a = 485) (fun k => k = 11 ∨ k = 49) h g2 := f2.trans ⟨fx.2.1, fx.2.2.2.1, fx.2.2.2.2.1, fx.2.2.1, fun a ha => fx.2.2.2.2.2 a (fun z => ha (Or.inl z)), fun a _ => by rw [fx.1], fun k _ => by rw [fx.1]⟩
        have eb2 : bbg (jX (jsX (jsX g 482 1 1) 482 2 4) 482) = bnw (jX (jsX (jsX g 482 1 1) 482 2 4) 482) := by
          unfold bbg
          rw [if_neg (by rw [e3]; decide)]
        apply bX9_begins_40
        case q1 =>
          rw [hM4.p13]
          refine ⟨rfl, (((f3.trans (MF.sI (Or.inl rfl))).trans (MF.sI (Or.inr rfl))).trans (MF.sX (Or.inr rfl))).trans (MF.sX (Or.inr rfl)), fun k hk => ?_, ?_, ?_, ?_, ?_⟩
          · rw [jX_sX, if_neg (by omega), jX_sX, if_neg (by omega), jX_sI, jX_sI, eb, eb2]
            exact bnw_cong (s := fun k => if k = 1 then 1 else if k = 2 then 4 else 0) rfl e k hk
          · show jI (jsI (jsI g2 476 11 0) 476 49 0) 476 11 = 0
            rw [jI_sI, if_neg (by omega), jI_sI, if_pos ⟨rfl, rfl⟩]
          · show jI (jsI (jsI g2 476 11 0) 476 49 0) 476 49 = 0
            rw [jI_sI, if_pos ⟨rfl, rfl⟩]
          · rw [jX_sX, if_neg (by omega), jX_sX, if_pos ⟨rfl, rfl⟩]
          · rw [jX_sX, if_pos ⟨rfl, rfl⟩]
        all_goals first
          | exact hM4.x
          | (rw [hM4.p13, hM4.s485]; done)
          | (rw [hM4.p13, hM4.s485]; decide)
      case k1 => intro z; omega
      all_goals first
        | exact hM2.x
        | (rw [hM2.p9, hM2.s482]; done)
        | (intros; rw [hM2.p9, hM2.s482]; decide)
        | (intro z; omega)
    | succ w ih =>
      intro i hi g fm hz
      have hM2 := fm.mk hM
      apply bX9_begins_2
      case e1 => intro z; omega
      case k1 =>
        intro _
        rw [hM2.p9, Int.toNat_natCast, show (i : Int) + 1 = ((i + 1 : Nat) : Int) by omega]
        refine ih (i + 1) (by omega) _ (fm.trans (MF.sX (Or.inl rfl))) (fun k hk => ?_)
        rw [jX_sX]
        by_cases z : k = i
        · rw [if_pos ⟨rfl, z⟩]
        · rw [if_neg (fun y => z y.2)]; exact hz k (by omega)
      all_goals first
        | exact hM2.x
        | (rw [hM2.p9, hM2.s482]; done)
        | (intros; exact ⟨by omega, by omega⟩)
        | (intros; omega)
        | (intros; rw [hM2.p9, hM2.s482]; decide)
        | (intros; rw [hM2.p9, hM2.s482]; refine Int.lt_of_le_of_lt (b := 208) ?_ (by decide); omega)
  exact key 209 0 (by omega) h MF.rf (fun k hk => absurd hk (Nat.not_lt_zero _))
end NE
