/-! ===== the model: notes ===== -/
section LL
variable {h g : jH} {node wi sn code cm s past : Nat → Int} {n nw nd ns u D : Nat} {K : Int}
theorem FP.fil {P : Nat → Prop} {a lo hi : Nat} {f : Nat → Int} (ha : P a) : FP P h (jfil h a lo hi f) :=
  ⟨rfl, rfl, rfl, fun b hb => ⟨rfl, funext fun j => by rw [jX_fil, if_neg (show ¬ (b = a ∧ lo ≤ j ∧ j < hi) from fun z => hb (by rw [z.1]; exact ha))], rfl⟩⟩
theorem eX9_notes {d : Nat} (hM : MK h) (es : jX h 482 = s) (ep : jX h 483 = past) (eu : jI h 476 11 = (u : Int)) (h6 : u ≤ 6) :
    Ex MX9_notes d [.inr 476] h 0 0 (fun v g => v = none ∧ FP (fun a => a = 483 ∨ a = 476) h g ∧ jX g 483 = pnt past u s ∧ jX g 476 = jX h 476 ∧ jI g 476 11 = ((if u = 6 then 6 else u + 1 : Nat) : Int) ∧ ∀ k, k ≠ 11 → jI g 476 k = jI h 476 k) := by
  refine Ex_of_V tX9_notes (Nat.le_of_ble_eq_true rfl) ?_
  -- the row is copied behind the last one
  have put : ∀ (g : jH) (w : Nat), w ≤ 5 → FP (fun a => a = 483 ∨ a = 476) h g → jX g 476 = jX h 476 → jI g 476 11 = (w : Int) → (∀ k, k ≠ 11 → jI g 476 k = jI h 476 k) → V MX9_notes d 52 [some (.inr 476), some (.inl 0)] [] g 0 0 (fun v g2 => v = none ∧ FP (fun a => a = 483 ∨ a = 476) h g2 ∧ jX g2 483 = pad (jX g 483) w s ∧ jX g2 476 = jX h 476 ∧ jI g2 476 11 = ((w + 1 : Nat) : Int) ∧ ∀ k, k ≠ 11 → jI g2 476 k = jI h 476 k) := by
    intro g w hw fp ex ew ei
    have es2 : jX g 482 = s := (fp.2.2.2 482 (by omega)).2.1.trans es
    have key : ∀ (m i : Nat), i + m = 209 → V MX9_notes d 52 [some (.inr 476), some (.inl (i : Int))] [] (jfil g 483 (209 * w) (209 * w + i) (fun k => s (k - 209 * w))) 0 0 (fun v g2 => v = none ∧ FP (fun a => a = 483 ∨ a = 476) h g2 ∧ jX g2 483 = pad (jX g 483) w s ∧ jX g2 476 = jX h 476 ∧ jI g2 476 11 = ((w + 1 : Nat) : Int) ∧ ∀ k, k ≠ 11 → jI g2 476 k = jI h 476 k) := by
      intro m
      induction m with
      | zero =>
        intro i hi
        obtain rfl : i = 209 := by omega
        have f1 : FP (fun a => a = 483 ∨ a = 476) g (jfil g 483 (209 * w) (209 * w + 209) (fun k => s (k - 209 * w))) := FP.fil (Or.inl rfl)
        have hM2 : MK (jfil g 483 (209 * w) (209 * w + 209) (fun k => s (k - 209 * w))) := hM.fr (f1.1.trans fp.1) (f1.2.1.trans fp.2.1)
        have ew2 : jI (jfil g 483 (209 * w) (209 * w + 209) (fun k => s (k - 209 * w))) 476 11 = (w : Int) := ew
        apply bX9_notes_52
        case r1 => rw [ew2]; intros; exact ⟨by omega, by omega⟩
        case q1 =>
          intro _
          rw [ew2]
          refine ⟨rfl, (fp.trans f1).trans (FP.sI (Or.inr rfl)), ?_, ?_, by rw [jI_sI, if_pos ⟨rfl, rfl⟩]; omega, fun k hk => by rw [jI_sI, if_neg (fun z => hk z.2)]; exact ei k hk⟩
          · funext k
            rw [jX_sI, jX_fil]
            unfold pad
            by_cases q : 209 * w ≤ k ∧ k < 209 * w + 209
            · rw [if_pos ⟨rfl, q⟩, if_pos q]
            · rw [if_neg (fun z => q z.2), if_neg q]
          · funext k
            rw [jX_sI, jX_fil, if_neg (by omega), ex]
        all_goals first
          | exact hM2.x
          | (rw [hM2.p9, hM2.s482]; done)
          | (rw [hM2.p10, hM2.s483]; done)
          | (intro q; exact absurd (by decide) q)
      | succ m ih =>
        intro i hi
        have f1 : FP (fun a => a = 483 ∨ a = 476) g (jfil g 483 (209 * w) (209 * w + i) (fun k => s (k - 209 * w))) := FP.fil (Or.inl rfl)
        have hM2 : MK (jfil g 483 (209 * w) (209 * w + i) (fun k => s (k - 209 * w))) := hM.fr (f1.1.trans fp.1) (f1.2.1.trans fp.2.1)
        have ew2 : jI (jfil g 483 (209 * w) (209 * w + i) (fun k => s (k - 209 * w))) 476 11 = (w : Int) := ew
        apply bX9_notes_52
        case q1 => intro q; omega
        case k1 =>
          intro _
          rw [hM2.p9, hM2.p10, ew2, Int.toNat_natCast, show (209 * (w : Int) + (i : Int)).toNat = 209 * w + i by omega, show (i : Int) + 1 = ((i + 1 : Nat) : Int) by omega]
          have e9 : jX (jfil g 483 (209 * w) (209 * w + i) (fun k => s (k - 209 * w))) 482 i = s (209 * w + i - 209 * w) := by
            rw [jX_fil, if_neg (by omega), es2, show 209 * w + i - 209 * w = i by omega]
          rw [e9, jfil_s rfl (by omega), show 209 * w + i + 1 = 209 * w + (i + 1) by omega]
          exact ih (i + 1) (by omega)
        all_goals first
          | exact hM2.x
          | (rw [hM2.p9, hM2.s482]; done)
          | (rw [hM2.p10, hM2.s483]; done)
          | (rw [ew2]; intros; exact ⟨by omega, by omega⟩)
          | (intros; exact ⟨by omega, by omega⟩)
          | (intros; omega)
          | (rw [ew2]; intros; omega)
          | (intros; rw [hM2.p9, hM2.s482]; refine Int.lt_of_le_of_lt (b := 208) ?_ (by decide); omega)
          | (rw [ew2]; intros; rw [hM2.p10, hM2.s483]; refine Int.lt_of_le_of_lt (b := 1253) ?_ (by decide); omega)
    have h9 := key 209 0 (by omega)
    rw [Nat.add_zero, jfil_0] at h9
    exact h9
  by_cases hu : u = 6
  · subst hu
    have key : ∀ (m i : Nat), i + m = 1045 → V MX9_notes d 11 [some (.inr 476), some (.inl (i : Int))] [] (jfil h 483 0 i (fun k => past (k + 209))) 0 0 (fun v g => v = none ∧ FP (fun a => a = 483 ∨ a = 476) h g ∧ jX g 483 = pnt past 6 s ∧ jX g 476 = jX h 476 ∧ jI g 476 11 = ((6 : Nat) : Int) ∧ ∀ k, k ≠ 11 → jI g 476 k = jI h 476 k) := by
      intro m
      induction m with
      | zero =>
        intro i hi
        obtain rfl : i = 1045 := by omega
        have hM2 : MK (jfil h 483 0 1045 (fun k => past (k + 209))) := hM.fr rfl rfl
        have eu2 : jI (jfil h 483 0 1045 (fun k => past (k + 209))) 476 11 = 6 := eu
        apply bX9_notes_11
        case r1 => rw [eu2]; intros; exact ⟨by omega, by omega⟩
        case k1 =>
          intro _
          rw [eu2]
          have h9 := put (jsI (jfil h 483 0 1045 (fun k => past (k + 209))) 476 11 (6 - 1)) 5 (by omega) ((FP.fil (Or.inl rfl)).trans (FP.sI (Or.inr rfl))) (funext fun k => by rw [jX_sI, jX_fil, if_neg (by omega)]) (by rw [jI_sI, if_pos ⟨rfl, rfl⟩]; rfl) (fun k hk => by rw [jI_sI, if_neg (fun z => hk z.2)]; rfl)
          have e1 : jX (jsI (jfil h 483 0 1045 (fun k => past (k + 209))) 476 11 (6 - 1)) 483 = psh past := by
            funext k
            rw [jX_sI, jX_fil, ep]
            unfold psh
            by_cases q : k < 1045
            · rw [if_pos ⟨rfl, by omega, q⟩, if_pos q]
            · rw [if_neg (by omega), if_neg q]
          rw [e1] at h9
          exact h9
        all_goals first
          | exact hM2.x
          | (rw [hM2.p10, hM2.s483]; done)
          | (intro q; exact absurd (by decide) q)
      | succ m ih =>
        intro i hi
        have hM2 : MK (jfil h 483 0 i (fun k => past (k + 209))) := hM.fr rfl rfl
        apply bX9_notes_11
        case k1 => intro q; omega
        case r1 => intro q; omega
        case k2 =>
          intro _
          rw [hM2.p10, Int.toNat_natCast, show ((i : Int) + 209).toNat = i + 209 by omega, show (i : Int) + 1 = ((i + 1 : Nat) : Int) by omega]
          have e9 : jX (jfil h 483 0 i (fun k => past (k + 209))) 483 (i + 209) = past (i + 209) := by rw [jX_fil, if_neg (by omega), ep]
          rw [e9, jfil_s rfl (by omega)]
          exact ih (i + 1) (by omega)
        all_goals first
          | exact hM2.x
          | (rw [hM2.p10, hM2.s483]; done)
          | (intros; exact ⟨by omega, by omega⟩)
          | (intros; omega)
          | (intros; rw [hM2.p10, hM2.s483]; refine Int.lt_of_le_of_lt (b := 1253) ?_ (by decide); omega)
    have h9 := key 1045 0 (by omega)
    rw [jfil_0] at h9
    apply bX9_notes_0
    case k1 => rw [eu]; intro q; exact absurd rfl q
    case k2 => intro _; exact h9
    all_goals exact hM.x
  · apply bX9_notes_0
    case k1 =>
      intro _
      have h9 := put h u (by omega) FP.rf rfl eu (fun _ _ => rfl)
      rw [ep] at h9
      unfold pnt
      rw [if_neg hu, if_neg hu]
      exact h9
    case k2 => rw [eu]; intro q; omega
    all_goals exact hM.x
end LL
