/-! ===== tokens: the model's, and numbers ===== -/
section MN
variable {h g : jH} {b : Nat → Int} {c : Nat}
/-- the text as the model has it -/
def TXM (h : jH) (b : Nat → Int) (c : Nat) : Prop := MK h ∧ jI h 476 15 = (c : Int) ∧ byt b c ∧ ∀ i, i < c → jX h 486 i = b i
theorem TXM.mf {P F : Nat → Prop} (hT : TXM h b c) (f : MF P F h g) (hP : ¬ P 486) (hF : ¬ F 15) : TXM g b c :=
  ⟨f.mk hT.1, by rw [f.2.2.2.2.2.2 15 hF]; exact hT.2.1, hT.2.2.1, by rw [f.2.2.2.2.1 486 hP]; exact hT.2.2.2⟩
/-- the model stands at the token at p -/
def TXQ (h : jH) (b : Nat → Int) (c p : Nat) : Prop := p ≤ c ∧ jI h 476 16 = (ten b c p : Int) ∧ jI h 476 17 = (p : Int) ∧ jI h 476 18 = tso b c p ∧ (p < c → jI h 476 19 = tva b c p)
def nuF (k : Nat) : Prop := 16 ≤ k ∧ k ≤ 19
def nuP (_ : Nat) : Prop := False
theorem eX9_next {d e : Nat} (hT : TXM h b c) (he : e ≤ c) (h16 : jI h 476 16 = (e : Int)) :
    Ex MX9_next (d + 2) [.inr 476] h 0 0 (fun r g => r = none ∧ MF nuP nuF h g ∧ TXQ g b c (tsk b c e)) := by
  have hc := hT.2.2.1.1
  have hby := hT.2.2.1.2
  refine Ex_of_V tX9_next (Nat.le_of_ble_eq_true rfl) ?_
  -- the figures
  have figs : ∀ (p : Nat), p < c → 48 ≤ b p ∧ b p ≤ 57 → p = tsk b c e → ∀ w m : Nat, p + m + w = c → tdg b c p = tdg b c (p + m) → ∀ g : jH, MF nuP nuF h g → jI g 476 16 = ((p + m : Nat) : Int) → jI g 476 17 = (p : Int) → jI g 476 19 = tcv b p m → V MX9_next (d + 2) 89 [some (.inr 476), some (.inl (b p))] [] g 0 0 (fun r g => r = none ∧ MF nuP nuF h g ∧ TXQ g b c (tsk b c e)) := by
    intro p hp hf hpe w
    have fin : ∀ (m : Nat) (g : jH), tdg b c p = p + m → MF nuP nuF h g → jI g 476 16 = ((p + m : Nat) : Int) → jI g 476 17 = (p : Int) → jI g 476 19 = tcv b p m → ∀ so : Int, so = tso b c p → (none : Option jA) = none ∧ MF nuP nuF h (jsI g 476 18 so) ∧ TXQ (jsI g 476 18 so) b c (tsk b c e) := by
      intro m g hd f g16 g17 g19 so hso
      refine ⟨rfl, f.trans (MF.sI (by unfold nuF; omega)), ?_⟩
      rw [← hpe]
      refine ⟨by omega, ?_, ?_, ?_, fun _ => ?_⟩
      · rw [jI_sI, if_neg (by omega), g16]; unfold ten; rw [if_pos hp, if_pos hf, hd]
      · rw [jI_sI, if_neg (by omega)]; exact g17
      · rw [jI_sI, if_pos ⟨rfl, rfl⟩]; exact hso
      · rw [jI_sI, if_neg (by omega), g19]; unfold tva; rw [if_pos hf, hd, Nat.add_sub_cancel_left]
    have so5 : ∀ m, tdg b c p = p + m → 255 < tcv b p m → (5 : Int) = tso b c p := fun m hd q => by
      unfold tso
      rw [if_pos hp, if_pos hf, hd, Nat.add_sub_cancel_left, if_pos q]
    have so2 : ∀ m, tdg b c p = p + m → ¬ 255 < tcv b p m → ¬ (b p = 48 ∧ p + 1 < p + m) → (2 : Int) = tso b c p := fun m hd q q2 => by
      unfold tso
      rw [if_pos hp, if_pos hf, hd, Nat.add_sub_cancel_left, if_neg q, if_neg q2]
    have so5' : ∀ m, tdg b c p = p + m → ¬ 255 < tcv b p m → (b p = 48 ∧ p + 1 < p + m) → (5 : Int) = tso b c p := fun m hd q q2 => by
      unfold tso
      rw [if_pos hp, if_pos hf, hd, Nat.add_sub_cancel_left, if_neg q, if_pos q2]
    -- at the end of the figures
    have stop : ∀ (m : Nat) (g : jH), ¬ fgd b c (p + m) → p + m ≤ c → tdg b c p = tdg b c (p + m) → MF nuP nuF h g → jI g 476 16 = ((p + m : Nat) : Int) → jI g 476 17 = (p : Int) → jI g 476 19 = tcv b p m → V MX9_next (d + 2) 89 [some (.inr 476), some (.inl (b p))] [] g 0 0 (fun r g => r = none ∧ MF nuP nuF h g ∧ TXQ g b c (tsk b c e)) := by
      intro m g hn hmc hd f g16 g17 g19
      have hd2 := hd.trans (tdg_n hn)
      have hG := hT.mf f (by unfold nuP; exact id) (by unfold nuF; omega)
      have hM := hG.1
      have cond : (jI g 476 16 < jI g 476 15 ∧ 48 ≤ jX g (jP g 476 14) ((jI g 476 16).toNat) ∧ jX g (jP g 476 14) ((jI g 476 16).toNat) ≤ 57) → False := by
        rw [g16, hG.2.1, hM.p14, Int.toNat_natCast]
        intro y
        refine hn ⟨by omega, ?_⟩
        rw [← hG.2.2.2 (p + m) (by omega)]
        exact y.2
      apply bX9_next_89
      case q1 => rw [g19]; intro _ y; exact fin m g hd2 f g16 g17 g19 5 (so5 m hd2 y)
      case q2 => rw [g19]; intro _ y y2; exact fin m g hd2 f g16 g17 g19 2 (so2 m hd2 y (fun z => y2 z.1))
      case q3 => rw [g19, g16, g17]; intro _ y y2 y3; exact fin m g hd2 f g16 g17 g19 2 (so2 m hd2 y (fun z => by omega))
      case q4 => rw [g19, g16, g17]; intro _ y y2 y3; exact fin m g hd2 f g16 g17 g19 5 (so5' m hd2 y ⟨y2, by omega⟩)
      all_goals first
        | exact hM.x
        | (rw [hM.p14, hM.s486]; done)
        | (rw [hG.2.1]; omega)
        | (rw [g16]; omega)
        | (intro y; exact (cond y).elim)
        | (rw [g17]; intros; exact ⟨by omega, by omega⟩)
    induction w with
    | zero =>
      intro m hm hd g f g16 g17 g19
      exact stop m g (fun y => by have := y.1; omega) (by omega) hd f g16 g17 g19
    | succ w ih =>
      intro m hm hd g f g16 g17 g19
      by_cases z : fgd b c (p + m)
      · have hG := hT.mf f (by unfold nuP; exact id) (by unfold nuF; omega)
        have hM := hG.1
        have eb : jX g (jP g 476 14) ((jI g 476 16).toNat) = b (p + m) := by rw [g16, hM.p14, Int.toNat_natCast]; exact hG.2.2.2 _ (by omega)
        have cond : jI g 476 16 < jI g 476 15 ∧ 48 ≤ jX g (jP g 476 14) ((jI g 476 16).toNat) ∧ jX g (jP g 476 14) ((jI g 476 16).toNat) ≤ 57 := by
          rw [eb, g16, hG.2.1]
          exact ⟨by omega, z.2⟩
        have hfg : ∀ i, i < m + 1 → fgd b c (p + i) := tdg_fg (by omega) (m + 1) (by rw [hd, tdg_y z]; exact (tdg_le (by omega)).1)
        obtain ⟨cv1, -⟩ := tcv_b hby m (fun i hi => hfg i (by omega))
        have zb := z.2
        have step : ∀ v : Int, v = tcv b p (m + 1) → V MX9_next (d + 2) 89 [some (.inr 476), some (.inl (b p))] [] (jsI (jsI g 476 19 v) 476 16 (((p + m : Nat) : Int) + 1)) 0 0 (fun r g => r = none ∧ MF nuP nuF h g ∧ TXQ g b c (tsk b c e)) := by
          intro v hv
          refine ih (m + 1) (by omega) (hd.trans (tdg_y z)) _ ((f.trans (MF.sI (by unfold nuF; omega))).trans (MF.sI (by unfold nuF; omega))) ?_ ?_ ?_
          · rw [jI_sI, if_pos ⟨rfl, rfl⟩]; omega
          · rw [jI_sI, if_neg (by omega), jI_sI, if_neg (by omega)]; exact g17
          · rw [jI_sI, if_neg (by omega), jI_sI, if_pos ⟨rfl, rfl⟩]; exact hv
        apply bX9_next_89
        case q1 => intro y; exact absurd cond y
        case q2 => intro y; exact absurd cond y
        case q3 => intro y; exact absurd cond y
        case q4 => intro y; exact absurd cond y
        case k1 =>
          rw [eb, g16, g19]
          intro _ y
          exact step _ (by (conv => rhs; unfold tcv); rw [if_pos y])
        case k2 =>
          rw [g16, g19]
          intro _ y
          exact step _ (by (conv => rhs; unfold tcv); rw [if_neg y])
        all_goals first
          | exact hM.x
          | (rw [hM.p14, hM.s486]; done)
          | (rw [hG.2.1]; omega)
          | (intro y; exact absurd cond y)
          | (rw [eb, g16, g19]; intros; exact ⟨by omega, by omega⟩)
          | (rw [g16, g19]; intros; exact ⟨by omega, by omega⟩)
          | (rw [g16]; omega)
          | (intros; rw [g16, hM.p14, hM.s486]; refine Int.lt_of_le_of_lt (b := 159) ?_ (by decide); omega)
      · exact stop m g z (by omega) hd f g16 g17 g19
  -- the spaces
  have key : ∀ w q : Nat, q + w = c → tsk b c e = tsk b c q → ∀ (g : jH) u1, MF nuP nuF h g → jI g 476 16 = (q : Int) → V MX9_next (d + 2) 0 [some (.inr 476), u1] [] g 0 0 (fun r g => r = none ∧ MF nuP nuF h g ∧ TXQ g b c (tsk b c e)) := by
    intro w
    induction w with
    | zero =>
      intro q hq hk g u1 f g16
      have hG := hT.mf f (by unfold nuP; exact id) (by unfold nuF; omega)
      have hM := hG.1
      have e0 : tsk b c e = q := hk.trans (tsk_n (fun y => by omega))
      have hn : ¬ q < c := by omega
      apply bX9_next_0
      case q1 =>
        rw [g16]
        intro _ _
        refine ⟨rfl, (f.trans (MF.sI (by unfold nuF; omega))).trans (MF.sI (by unfold nuF; omega)), ?_⟩
        rw [e0]
        refine ⟨by omega, ?_, ?_, ?_, fun y => absurd y hn⟩
        · rw [jI_sI, if_neg (by omega), jI_sI, if_neg (by omega), g16]; unfold ten; rw [if_neg hn]; omega
        · rw [jI_sI, if_neg (by omega), jI_sI, if_pos ⟨rfl, rfl⟩]
        · rw [jI_sI, if_pos ⟨rfl, rfl⟩]; unfold tso; rw [if_neg hn]
      all_goals (try rw [hG.2.1, g16])
      all_goals first
        | exact hM.x
        | (rw [hM.p14, hM.s486]; done)
        | (intro y; omega)
        | (intro _ y; omega)
        | (rw [hG.2.1]; omega)
    | succ w ih =>
      intro q hq hk g u1 f g16
      have hG := hT.mf f (by unfold nuP; exact id) (by unfold nuF; omega)
      have hM := hG.1
      have eb : jX g (jP g 476 14) ((((q : Nat) : Int)).toNat) = b q := by rw [hM.p14, Int.toNat_natCast]; exact hG.2.2.2 q (by omega)
      have hp : q < c := by omega
      apply bX9_next_0
      case e1 => rw [hG.2.1, g16]; intro y; omega
      case q1 => rw [hG.2.1, g16]; intro y; omega
      case q2 => rw [hG.2.1, g16]; intro _ _ y; omega
      case k1 =>
        rw [hG.2.1, g16, eb, show (q : Int) + 1 = ((q + 1 : Nat) : Int) by omega]
        intro _ z
        exact ih (q + 1) (by omega) (hk.trans (tsk_y (by omega) z)) _ _ (f.trans (MF.sI (by unfold nuF; omega))) (by rw [jI_sI, if_pos ⟨rfl, rfl⟩])
      case e2 =>
        rw [hG.2.1, g16, eb]
        intro _ z _
        have e0 : q = tsk b c e := (hk.trans (tsk_n (fun y => z y.2))).symm
        have f1 : MF nuP nuF h (jsI g 476 17 (q : Int)) := f.trans (MF.sI (by unfold nuF; omega))
        have hG1 := hT.mf f1 (by unfold nuP; exact id) (by unfold nuF; omega)
        have hM1 := hG1.1
        have g161 : jI (jsI g 476 17 (q : Int)) 476 16 = (q : Int) := by rw [jI_sI, if_neg (by omega)]; exact g16
        have g171 : jI (jsI g 476 17 (q : Int)) 476 17 = (q : Int) := by rw [jI_sI, if_pos ⟨rfl, rfl⟩]
        have eb1 : jX (jsI g 476 17 (q : Int)) (jP (jsI g 476 17 (q : Int)) 476 14) ((((q : Nat) : Int)).toNat) = b q := eb
        refine Ex.mono (pX9_isFigure (d := d) (z1 := (q : Int)) hM1.x (by rw [hM1.p14, hM1.s486]) (by rw [hM1.p14, hM1.s486]) (by rw [hG1.2.1]; omega) (by omega)) ?_
        rintro r g2 ⟨rfl, rfl⟩
        rw [hG1.2.1, eb1]
        generalize hg2 : jsI g 476 17 (q : Int) = g2 at f1 hG1 hM1 g161 g171
        -- one byte
        have fin1 : ∀ so va : Int, ¬ (48 ≤ b q ∧ b q ≤ 57) → so = tso b c q → va = tva b c q → (none : Option jA) = none ∧ MF nuP nuF h (jsI (jsI (jsI g2 476 16 (jI g2 476 16 + 1)) 476 19 va) 476 18 so) ∧ TXQ (jsI (jsI (jsI g2 476 16 (jI g2 476 16 + 1)) 476 19 va) 476 18 so) b c (tsk b c e) := by
          intro so va hnf hso hva
          refine ⟨rfl, ((f1.trans (MF.sI (by unfold nuF; omega))).trans (MF.sI (by unfold nuF; omega))).trans (MF.sI (by unfold nuF; omega)), ?_⟩
          rw [← e0]
          refine ⟨by omega, ?_, ?_, ?_, fun _ => ?_⟩
          · rw [jI_sI, if_neg (by omega), jI_sI, if_neg (by omega), jI_sI, if_pos ⟨rfl, rfl⟩, g161]
            unfold ten
            rw [if_pos hp, if_neg hnf]
            omega
          · rw [jI_sI, if_neg (by omega), jI_sI, if_neg (by omega), jI_sI, if_neg (by omega)]; exact g171
          · rw [jI_sI, if_pos ⟨rfl, rfl⟩]; exact hso
          · rw [jI_sI, if_neg (by omega), jI_sI, if_pos ⟨rfl, rfl⟩]; exact hva
        have nf : jb ((q : Int) < (c : Int) ∧ 48 ≤ b q ∧ b q ≤ 57) = 0 → ¬ (48 ≤ b q ∧ b q ≤ 57) := by
          intro y z2
          unfold jb at y
          rw [if_pos ⟨by omega, z2⟩] at y
          exact absurd y (by decide)
        have tva1 : ¬ (48 ≤ b q ∧ b q ≤ 57) → (97 ≤ b q ∧ b q ≤ 122) → b q - 97 = tva b c q := fun y z2 => by unfold tva; rw [if_neg y, if_pos z2]
        have tva2 : ¬ (48 ≤ b q ∧ b q ≤ 57) → ¬ (97 ≤ b q ∧ b q ≤ 122) → b q = tva b c q := fun y z2 => by unfold tva; rw [if_neg y, if_neg z2]
        apply bX9_next_81
        case k1 =>
          intro y
          have hf : 48 ≤ b q ∧ b q ≤ 57 := Classical.byContradiction fun z2 => y (by unfold jb; rw [if_neg (fun w => z2 w.2)])
          refine figs q hp hf e0 (w + 1) 0 (by omega) (by rw [Nat.add_zero]) _ (f1.trans (MF.sI (by unfold nuF; omega))) ?_ ?_ ?_
          · rw [jI_sI, if_neg (by omega)]; exact g161
          · rw [jI_sI, if_neg (by omega)]; exact g171
          · rw [jI_sI, if_pos ⟨rfl, rfl⟩]; rfl
        case q1 =>
          intro y y2 _ y3
          exact fin1 5 _ (nf y) (by unfold tso; rw [if_pos hp, if_neg (nf y), if_neg y2, if_neg y3]) (tva2 (nf y) y2)
        case q2 =>
          intro y y2 _ y3
          exact fin1 3 _ (nf y) (by unfold tso; rw [if_pos hp, if_neg (nf y), if_neg y2, if_pos y3]) (tva2 (nf y) y2)
        case q3 => intro _ y y2; exact absurd y2 y
        case q4 => intro _ y y2; exact absurd y y2
        case q5 => intro _ y y2; exact absurd y y2
        case q6 =>
          intro y y2 _
          exact fin1 1 _ (nf y) (by unfold tso; rw [if_pos hp, if_neg (nf y), if_pos y2]) (tva1 (nf y) y2)
        all_goals first
          | exact hM1.x
          | (rw [g161]; intros; exact ⟨by omega, by omega⟩)
          | (intros; exact ⟨by omega, by omega⟩)
      all_goals (try rw [hG.2.1, g16])
      all_goals (try rw [eb])
      all_goals first
        | exact hM.x
        | (rw [hM.p14, hM.s486]; done)
        | (intros; exact ⟨by omega, by omega⟩)
        | (intros; omega)
        | (rw [hG.2.1]; omega)
        | (intros; rw [hM.p14, hM.s486]; refine Int.lt_of_le_of_lt (b := 159) ?_ (by decide); omega)
        | (intros; rw [g16]; omega)
        | (intros; rw [g16, hM.p14, hM.s486]; refine Int.lt_of_le_of_lt (b := 159) ?_ (by decide); omega)
  exact key (c - e) e (by omega) rfl h _ MF.rf h16
end MN
