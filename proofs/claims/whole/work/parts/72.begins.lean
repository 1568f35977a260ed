/-! ===== the model: blockBegins ===== -/
section LS
variable {h g : jH} {s q : Nat → Int}
/-- behind the first writes: the frame, the count -/
theorem bb105 {d o : Nat} (hM : MK h) (ho : o = 11 + 33 * (q 3).toNat) (h0 : 0 ≤ q 3) (h5 : q 3 ≤ 5) : ∀ (m w : Nat) (g : jH), w + m = 6 → FX (fun b => b = 482) h g → (∀ k, jX g 482 k = if o + 3 ≤ k ∧ k < o + 3 + w then q (5 + (k - (o + 3))) else if k = o + 2 then 0 else if k = o + 1 then -9 else if k = o then q 0 else q k) →
    V MX9_blockBegins (d + 1) 105 [some (.inr 476), some (.inl (o : Int)), some (.inl (w : Int))] [] g 0 0 (fun v g => v = none ∧ FX (fun b => b = 482) h g ∧ jX g 482 = bnw q) := by
  intro m
  induction m with
  | zero =>
    intro w g hw fx hv
    obtain rfl : w = 6 := by omega
    have hM2 : MK g := hM.fr fx.2.1 fx.2.2.2.1
    have e3 : jX g 482 3 = q 3 := by rw [hv, if_neg (by omega), if_neg (by omega), if_neg (by omega), if_neg (by omega)]
    apply bX9_blockBegins_105
    case r1 => rw [hM2.p9, e3]; intros; exact ⟨by omega, by omega⟩
    case q1 =>
      intro _
      rw [hM2.p9, e3]
      refine ⟨rfl, fx.trans (FX.sX rfl), ?_⟩
      funext k
      rw [jX_sX, hv]
      unfold bnw
      by_cases z3 : k = 3
      · rw [if_pos ⟨rfl, z3⟩, if_pos z3]
      · rw [if_neg (fun y => z3 y.2), if_neg z3]
        rw [← ho]
        by_cases y0 : k = o
        · rw [if_neg (by omega), if_neg (by omega), if_neg (by omega), if_pos y0, if_pos y0]
        · by_cases y1 : k = o + 1
          · rw [if_neg (by omega), if_neg (by omega), if_pos y1, if_neg y0, if_pos y1]
          · by_cases y2 : k = o + 2
            · rw [if_neg (by omega), if_pos y2, if_neg y0, if_neg y1, if_pos y2]
            · by_cases y3 : o + 3 ≤ k ∧ k < o + 3 + 6
              · have y4 : o + 3 ≤ k ∧ k < o + 9 := by omega
                rw [if_pos y3, if_neg y0, if_neg y1, if_neg y2, if_pos y4]
              · have y4 : ¬ (o + 3 ≤ k ∧ k < o + 9) := by omega
                simp only [if_neg y0, if_neg y1, if_neg y2, if_neg y3, if_neg y4]
    all_goals first
      | exact hM2.x
      | (rw [hM2.p9, hM2.s482]; done)
      | (intros; rw [hM2.p9, hM2.s482]; decide)
      | (intro z; exact absurd (by decide) z)
  | succ m ih =>
    intro w g hw fx hv
    have hM2 : MK g := hM.fr fx.2.1 fx.2.2.2.1
    have e5 : jX g 482 (5 + w) = q (5 + w) := by rw [hv, if_neg (by omega), if_neg (by omega), if_neg (by omega), if_neg (by omega)]
    apply bX9_blockBegins_105
    case q1 => intro z; omega
    case k1 =>
      intro _
      rw [hM2.p9, show (5 + (w : Int)).toNat = 5 + w by omega, show ((o : Int) + 3 + (w : Int)).toNat = o + 3 + w by omega, show (w : Int) + 1 = ((w + 1 : Nat) : Int) by omega, e5]
      refine ih (w + 1) _ (by omega) (fx.trans (FX.sX rfl)) (fun k => ?_)
      rw [jX_sX, hv]
      by_cases z : k = o + 3 + w
      · rw [if_pos ⟨rfl, z⟩, if_pos (by omega)]
        congr 1
        omega
      · rw [if_neg (fun y => z y.2)]
        by_cases y : o + 3 ≤ k ∧ k < o + 3 + w
        · rw [if_pos y, if_pos (by omega)]
        · rw [if_neg y, if_neg (show ¬ (o + 3 ≤ k ∧ k < o + 3 + (w + 1)) by omega)]
    all_goals first
      | exact hM2.x
      | (rw [hM2.p9, hM2.s482]; done)
      | (intros; exact ⟨by omega, by omega⟩)
      | (intros; omega)
      | (intros; rw [hM2.p9, hM2.s482]; refine Int.lt_of_le_of_lt (b := 208) ?_ (by decide); omega)
theorem eX9_blockBegins {d : Nat} (hM : MK h) (es : jX h 482 = s) (h0 : 0 ≤ s 3) (h6 : s 3 ≤ 6) (h4 : 0 ≤ s 4) (h4b : s 4 ≤ 99999) :
    Ex MX9_blockBegins (d + 1) [.inr 476] h 0 0 (fun v g => v = none ∧ FX (fun b => b = 482) h g ∧ jX g 482 = bbg s) := by
  have e3 : jX h (jP h 476 9) 3 = s 3 := by rw [hM.p9, es]
  refine Ex_of_V tX9_blockBegins (Nat.le_of_ble_eq_true rfl) ?_
  unfold bbg
  by_cases q6 : s 3 = 6
  · rw [if_pos q6]
    have key : ∀ (m i : Nat), i + m = 176 → 11 ≤ i → V MX9_blockBegins (d + 1) 14 [some (.inr 476), some (.inl (i : Int)), none] [] (jfil h 482 11 i (fun k => s (k + 33))) 0 0 (fun v g => v = none ∧ FX (fun b => b = 482) h g ∧ jX g 482 = bnw (bsh s)) := by
      intro m
      induction m with
      | zero =>
        intro i hi h11
        obtain rfl : i = 176 := by omega
        have hM2 : MK (jfil h 482 11 176 (fun k => s (k + 33))) := hM.fr rfl rfl
        have r : ∀ k, k < 11 → jX (jfil h 482 11 176 (fun k => s (k + 33))) (jP (jfil h 482 11 176 (fun k => s (k + 33))) 476 9) k = s k := fun k hk => by rw [hM2.p9, jX_fil, if_neg (by omega), es]
        apply bX9_blockBegins_14
        case k2 => intro z; exact absurd (by decide) z
        case r1 => rw [r 3 (by omega)]; intros; exact ⟨by omega, by omega⟩
        case r2 => rw [r 4 (by omega)]; intros; exact ⟨by omega, by omega⟩
        case r3 => rw [r 3 (by omega)]; intros; exact ⟨by omega, by omega⟩
        case r4 => rw [r 3 (by omega)]; intros; exact ⟨by omega, by omega⟩
        case k1 =>
          intro _
          rw [r 3 (by omega), r 4 (by omega), r 0 (by omega), hM2.p9, q6]
          have fx : FX (fun b => b = 482) h (jsX (jsX (jsX (jsX (jsX (jfil h 482 11 176 (fun k => s (k + 33))) 482 3 5) 482 4 (s 4 + 1)) 482 176 (s 0)) 482 177 (-9)) 482 178 0) := by
            refine FX.trans (g := jfil h 482 11 176 (fun k => s (k + 33))) ⟨rfl, rfl, rfl, rfl, rfl, fun b hb => funext fun k => by rw [jX_fil, if_neg (fun z => hb z.1)]⟩ ?_
            exact ((((FX.sX (P := fun b => b = 482) rfl).trans (FX.sX rfl)).trans (FX.sX rfl)).trans (FX.sX rfl)).trans (FX.sX rfl)
          have b3 : bsh s 3 = 5 := by unfold bsh; rw [if_pos rfl, q6]; rfl
          have h9 := bb105 (d := d) (q := bsh s) (o := 176) hM (by rw [b3]; rfl) (by rw [b3]; decide) (by rw [b3]; decide) 6 0 _ (by omega) fx (fun k => ?_)
          · exact h9
          · rw [if_neg (by omega), jX_sX]
            by_cases y2 : k = 178
            · rw [if_pos ⟨rfl, y2⟩, if_pos y2]
            · rw [if_neg (fun z => y2 z.2), if_neg y2, jX_sX]
              by_cases y1 : k = 177
              · rw [if_pos ⟨rfl, y1⟩, if_pos y1]
              · rw [if_neg (fun z => y1 z.2), if_neg y1, jX_sX]
                by_cases y0 : k = 176
                · rw [if_pos ⟨rfl, y0⟩, if_pos y0]; rfl
                · rw [if_neg (fun z => y0 z.2), if_neg y0, jX_sX, jX_sX, jX_fil, es]
                  unfold bsh
                  by_cases z4 : k = 4
                  · rw [if_pos ⟨rfl, z4⟩, if_neg (by omega), if_pos z4]
                  · rw [if_neg (fun z => z4 z.2)]
                    by_cases z3 : k = 3
                    · rw [if_pos ⟨rfl, z3⟩, if_pos z3, q6]; rfl
                    · rw [if_neg (fun z => z3 z.2), if_neg z3, if_neg z4]
                      by_cases z : 11 ≤ k ∧ k < 176
                      · rw [if_pos ⟨rfl, z⟩, if_pos z]
                      · rw [if_neg (fun y => z y.2), if_neg z]
        all_goals (try rw [r 3 (by omega)])
        all_goals first
          | exact hM2.x
          | (rw [hM2.p9, hM2.s482]; done)
          | (intros; omega)
          | (intros; rw [hM2.p9, hM2.s482]; decide)
          | (intros; rw [hM2.p9, hM2.s482]; refine Int.lt_of_le_of_lt (b := 208) ?_ (by decide); omega)
          | (intro z; exact absurd (by decide) z)
      | succ m ih =>
        intro i hi h11
        have hM2 : MK (jfil h 482 11 i (fun k => s (k + 33))) := hM.fr rfl rfl
        apply bX9_blockBegins_14
        case k1 => intro z; omega
        case k2 =>
          intro _
          rw [hM2.p9, Int.toNat_natCast, show ((i : Int) + 33).toNat = i + 33 by omega, show (i : Int) + 1 = ((i + 1 : Nat) : Int) by omega]
          have e9 : jX (jfil h 482 11 i (fun k => s (k + 33))) 482 (i + 33) = s (i + 33) := by rw [jX_fil, if_neg (by omega), es]
          rw [e9, jfil_s rfl h11]
          exact ih (i + 1) (by omega) (by omega)
        all_goals first
          | exact hM2.x
          | (rw [hM2.p9, hM2.s482]; done)
          | (intros; exact ⟨by omega, by omega⟩)
          | (intros; omega)
          | (intros; rw [hM2.p9, hM2.s482]; refine Int.lt_of_le_of_lt (b := 208) ?_ (by decide); omega)
    have h9 := key 165 11 (by omega) (by omega)
    rw [jfil_0] at h9
    apply bX9_blockBegins_0
    case k1 => rw [e3]; intro z; exact absurd q6 z
    case k2 => intro _; exact h9
    all_goals (try rw [e3])
    all_goals first
      | exact hM.x
      | (rw [hM.p9, hM.s482]; done)
      | (intro z; exact absurd q6 z)
      | (rw [hM.p9, hM.s482]; decide)
  · rw [if_neg q6]
    apply bX9_blockBegins_0
    case k2 => rw [e3]; intro z; exact absurd z q6
    case r1 => rw [e3]; intros; exact ⟨by omega, by omega⟩
    case r2 => rw [e3]; intros; exact ⟨by omega, by omega⟩
    case k1 =>
      intro _
      rw [e3, hM.p9, es, show (11 + 33 * s 3).toNat = 11 + 33 * (s 3).toNat by omega, show (11 + 33 * s 3 + 1).toNat = 11 + 33 * (s 3).toNat + 1 by omega, show (11 + 33 * s 3 + 2).toNat = 11 + 33 * (s 3).toNat + 2 by omega, show 11 + 33 * s 3 = ((11 + 33 * (s 3).toNat : Nat) : Int) by omega]
      have fx : FX (fun b => b = 482) h (jsX (jsX (jsX h 482 (11 + 33 * (s 3).toNat) (s 0)) 482 (11 + 33 * (s 3).toNat + 1) (-9)) 482 (11 + 33 * (s 3).toNat + 2) 0) := ((FX.sX (P := fun b => b = 482) rfl).trans (FX.sX rfl)).trans (FX.sX rfl)
      refine bb105 (d := d) (q := s) hM rfl h0 (by omega) 6 0 _ (by omega) fx (fun k => ?_)
      rw [if_neg (by omega), jX_sX]
      by_cases y2 : k = 11 + 33 * (s 3).toNat + 2
      · rw [if_pos ⟨rfl, y2⟩, if_pos y2]
      · rw [if_neg (fun z => y2 z.2), if_neg y2, jX_sX]
        by_cases y1 : k = 11 + 33 * (s 3).toNat + 1
        · rw [if_pos ⟨rfl, y1⟩, if_pos y1]
        · rw [if_neg (fun z => y1 z.2), if_neg y1, jX_sX]
          by_cases y0 : k = 11 + 33 * (s 3).toNat
          · rw [if_pos ⟨rfl, y0⟩, if_pos y0]
          · rw [if_neg (fun z => y0 z.2), if_neg y0, es]
    all_goals (try rw [e3])
    all_goals first
      | exact hM.x
      | (rw [hM.p9, hM.s482]; done)
      | (intros; omega)
      | (rw [hM.p9, hM.s482]; decide)
      | (intros; rw [hM.p9, hM.s482]; decide)
      | (intros; rw [hM.p9, hM.s482]; refine Int.lt_of_le_of_lt (b := 208) ?_ (by decide); omega)
end LS
