/-! ===== class: terms ===== -/
section MT2
variable {h g h0 : jH} {b : Nat → Int} {c : Nat} {node wi sn code cm cw ci : Nat → Int} {n nw nd ns D p t m L : Nat}
theorem eX5_readSign {d : Nat} {x : Int} (hR : RDC h D) (hT : TXC h b c) (hP : TXP h b c p) (hx : sgn x) :
    Ex MX5_readSign (d + 1) [.inr 49, .inl x] h 0 0 (fun r g => (tsg b c p = x ∧ r = some (.inl 1) ∧ TF h g ∧ TXP g b c (tnx b c p)) ∨ (tsg b c p ≠ x ∧ r = some (.inl 0) ∧ g = h)) := by
  have esg : jI h (jP h 49 0) 4 = tsg b c p := by rw [hR.2.1]; exact hP.2.2.2
  refine Ex_of_V tX5_readSign (Nat.le_of_ble_eq_true rfl) ?_
  apply bX5_readSign_0
  case q1 => rw [esg]; intro z; exact Or.inr ⟨z, rfl, rfl⟩
  case e1 =>
    rw [esg, hR.2.1]
    intro z
    refine Ex.mono (eX7_toNext hT (ten_b hP.1).1 hP.2.2.1) ?_
    rintro r g ⟨rfl, f, hq⟩
    apply bX5_readSign_20
    exact Or.inl ⟨z, rfl, f, hq⟩
  all_goals first
    | exact hR.1
    | (rw [hR.2.1]; exact hT.1)
theorem RTP_of {k : Nat} (hB : CBS h0 D b c node n nw nd wi sn ns code cm) (hnd : nd ≤ 3) (hT : ∀ j, j < k → RTP h0 D n b c nd node wi sn ns j) : RTP h0 D n b c nd node wi sn ns k := by
  intro d h p t m L cw ci hmk hC hpre
  have hby := hB.2.1.2.2.2.2.1
  have hB1 := hB.cf hC.1
  obtain ⟨b1, b2, b3, b4, b5, b6, b7, b8⟩ := id hB1
  have esg : jI h (jP h 49 0) 4 = tsg b c p := by rw [b1.2.1]; exact hC.2.1.2.2.2
  have h3 := hC.2.2.1
  have h4 := hC.2.2.2.1
  have hp1 := hC.2.1.1
  have hfail : jI h 3 2 = (p : Int) ∧ p ≤ c := ⟨hC.2.1.2.1, hC.2.1.1⟩
  obtain ⟨pre1, pre2, pre3⟩ := id hpre
  have hq6 := pre3.1
  -- no more marks
  have nomark : ∀ x : Int, (x = 33 ∨ x = 40) → tsg b c p = x → ¬ ((m : Int) < 6) → TPost h0 D n b c nd node wi sn ns p t m L cw ci (some (.inl 0)) h := by
    intro x hx hs hm
    obtain ⟨s1, s2⟩ := (lk_s (b := b) (c := c) (p := p) (x := x) (by unfold sgn; omega)).mp hs
    exact Or.inr ⟨rfl, p, hC.1, hfail, fun d' g1 Q W hMD hk => MT_mark hMD.1 s1 (by omega) (fun z => by omega) (fun _ => hk)⟩
  -- a mark
  have mark : ∀ x : Int, (x = 33 ∨ x = 40) → tsg b c p = x → (m : Int) < 6 → Ex MX7_toNext (d + 2 * k) [.inr (jP h 49 0)] (jsI h 49 4 ((m : Int) + 1)) 0 0 (fun v h2 => V MX5_readTerm (d + 2 * k + 8) 48 [some (.inr 49), some (.inl x), none, none] (v.toList ++ []) h2 0 0 (TPost h0 D n b c nd node wi sn ns p t m L cw ci)) := by
    intro x hx hs hm
    obtain ⟨s1, s2⟩ := (lk_s (b := b) (c := c) (p := p) (x := x) (by unfold sgn; omega)).mp hs
    have hplt : p < c := tso_lt (b := b) (by rw [s1]; decide)
    have hnx := tnx_b (b := b) (c := c) hp1
    have hn1 := hnx.2 hplt
    have hC1 := hC.m1
    have hB2 := hB.cf hC1.1
    rw [b1.2.1]
    refine Ex.mono (eX7_toNext hB2.2.1 (ten_b hC1.2.1.1).1 hC1.2.1.2.2.1) ?_
    rintro r h2 ⟨rfl, f2, hp2⟩
    have hC2 := hC1.nx f2 hp2
    have hB3 := hB.cf hC2.1
    have hpre2 : CPre cw ci n t (m + 1) L := ⟨pre1, by omega, pre3⟩
    apply bX5_readTerm_48 (dr := d + 8 + 2 * (k - 1) + (if x = 40 then 1 else 0))
    case hdr => split <;> omega
    case s1 => exact hB3.1.1
    case e1 =>
      intro z
      have hx3 : x = 33 := by omega
      rw [if_neg z]
      refine Ex.mono (hT (k - 1) (by omega) d h2 (tnx b c p) t (m + 1) L cw ci (by omega) hC2 hpre2) ?_
      rintro r h3 (⟨rfl, q3, t3, m3, L3, cw3, ci3, hC3, hR3, hH3, hM3⟩ | ⟨rfl, f, hF, hf, hM3⟩)
      · obtain ⟨r1, r2, r3, r4, r5, r6, r7⟩ := id hR3
        have hB4 := hB.cf hC3.1
        apply bX5_readTerm_80
        case q1 => intro y; exact absurd y (by decide)
        case r1 => intro _; exact ⟨by omega, by omega⟩
        case e1 =>
          intro _
          rw [hB4.1.2.2]
          refine Ex.mono (eX2_addCode (k := 2) (v := 0) hB hC3 (by omega) (by unfold enc; rw [if_neg (by decide), if_neg (by decide), if_pos rfl]; omega)) ?_
          rintro r h5 ⟨rfl, hC5⟩
          have e3 : hq (up cw3 L3 2) (L3 + 1) = hq cw3 L3 := by rw [hq_s, if_pos rfl]
          have hh3 := hH3.1
          apply bX5_readTerm_94
          refine Or.inl ⟨rfl, q3, t3, m3, L3 + 1, _, _, hC5, ⟨by omega, r2, r3, by omega, r5, by omega, by rw [e3]; exact r7⟩, HS_up hH3 (by rw [e3]; omega) (by rw [e3]; omega) (Or.inr (Or.inr (Or.inl ⟨rfl, by omega⟩))), fun d' g1 Q W hMD hk => ?_⟩
          refine MT_mark hMD.1 s1 (by omega) (fun _ => ?_) (fun z => by omega)
          rw [s2, hx3]
          exact hM3 d' g1 Q (33 :: W) hMD hk
        all_goals first
          | exact hB4.1.1
          | (rw [hB4.1.2.2]; exact hB4.2.2.1.1)
          | (intros; rw [hB4.1.2.2]; exact hB4.2.2.1.1)
      · have hB4 := hB.cf hF
        apply bX5_readTerm_80
        case q1 =>
          intro _
          refine Or.inr ⟨rfl, f, hF, hf, fun d' g1 Q W hMD hk => ?_⟩
          exact MT_mark hMD.1 s1 (by omega) (fun _ => hM3 d' g1 Q _ hMD hk) (fun z => by omega)
        case r1 => intro y; exact absurd rfl y
        case e1 => intro y; exact absurd rfl y
        all_goals first
          | exact hB4.1.1
          | (rw [hB4.1.2.2]; exact hB4.2.2.1.1)
          | (intros; rw [hB4.1.2.2]; exact hB4.2.2.1.1)
    case e2 =>
      intro z
      rw [if_pos z]
      have hRE := REP_of (k := k - 1) hB hnd (fun j hj => hT j (by omega))
      have h9 := hRE d h2 (tnx b c p) t (m + 1) L cw ci (by omega) hC2 hpre2
      rw [show d + 9 + 2 * (k - 1) = d + 8 + 2 * (k - 1) + 1 by omega] at h9
      refine Ex.mono h9 ?_
      rintro r h3 (⟨rfl, q3, t3, m3, L3, cw3, ci3, hC3, hR3, hH3, hno, hM3⟩ | ⟨rfl, f, hF, hf, hM3⟩)
      · obtain ⟨r1, r2, r3, r4, r5, r6, r7⟩ := id hR3
        have hB4 := hB.cf hC3.1
        have hq3 := hC3.2.1.1
        apply bX5_readTerm_58
        case q1 => intro y; exact absurd y (by decide)
        case e1 =>
          intro _
          refine Ex.mono (eX5_readSign (x := 41) hB4.1 hB4.2.1 hC3.2.1 (by unfold sgn; omega)) ?_
          rintro r h5 (⟨y1, rfl, f5, hp5⟩ | ⟨y1, rfl, rfl⟩)
          · have hC5 := hC3.nx f5 hp5
            obtain ⟨u1, u2⟩ := (lk_s (b := b) (c := c) (p := q3) (x := 41) (by unfold sgn; omega)).mp y1
            have hqlt : q3 < c := tso_lt (b := b) (by rw [u1]; decide)
            have hn3 := (tnx_b (b := b) (c := c) hq3).2 hqlt
            apply bX5_readTerm_67
            case q1 => intro y; exact absurd y (by decide)
            case q2 =>
              intro _
              refine Or.inl ⟨rfl, tnx b c q3, t3, m3, L3, cw3, ci3, hC5, ⟨by omega, r2, r3, by omega, r5, by omega, r7⟩, hH3, fun d' g1 Q W hMD hk => ?_⟩
              refine MT_mark hMD.1 s1 (by omega) (fun _ => ?_) (fun z => by omega)
              rw [s2, z]
              refine hM3 d' g1 Q (40 :: W) (Or.inr ⟨W, rfl⟩) hMD ?_
              exact MA_close hMD.1 hMD.2.1 hnd u1 u2 hk
          · apply bX5_readTerm_67
            case q1 =>
              intro _
              refine Or.inr ⟨rfl, q3, hC3.1, ⟨hC3.2.1.2.1, hC3.2.1.1⟩, fun d' g1 Q W hMD hk => ?_⟩
              refine MT_mark hMD.1 s1 (by omega) (fun _ => ?_) (fun z => by omega)
              rw [s2, z]
              refine hM3 d' g1 Q (40 :: W) (Or.inr ⟨W, rfl⟩) hMD ?_
              refine MA_end hMD.1 hno (Or.inr (fun y => y1 ((lk_s (by unfold sgn; omega)).mpr y))) (fun y => absurd y (by exact List.cons_ne_nil _ _)) (fun _ => hk)
            case q2 => intro y; exact absurd rfl y
        all_goals first
          | exact hB4.1.1
      · apply bX5_readTerm_58
        case q1 =>
          intro _
          refine Or.inr ⟨rfl, f, hF, hf, fun d' g1 Q W hMD hk => ?_⟩
          refine MT_mark hMD.1 s1 (by omega) (fun _ => ?_) (fun z => by omega)
          rw [s2, z]
          exact hM3 d' g1 Q (40 :: W) (Or.inr ⟨W, rfl⟩) hMD hk
        case e1 => intro y; exact absurd rfl y
        all_goals first
          | exact (hB.cf hF).1.1
  -- what is no mark
  have nm : ¬ tsg b c p = 33 → tsg b c p ≠ 40 → ¬ (tso b c p = 3 ∧ (tva b c p = 33 ∨ tva b c p = 40)) := by
    rintro y1 y2 ⟨z1, z2 | z2⟩
    · exact y1 ((lk_s (by unfold sgn; omega)).mpr ⟨z1, z2⟩)
    · exact y2 ((lk_s (by unfold sgn; omega)).mpr ⟨z1, z2⟩)
  -- an operand was read
  have fin : ∀ (q : Nat) (h2 : jH) (kk v x : Int) u1 u2 u3, ¬ (t : Int) ≥ 6 → CXS h0 D n h2 b c q (t + 1) m L cw ci → p < q → x = enc kk v → (kk = 0 ∧ 0 ≤ v ∧ v ≤ 255) ∨ (kk = 1 ∧ 0 ≤ v ∧ v < n) → (∀ (d : Nat) (g1 : jH) (Q : Option jA → jH → Prop) (W : List Int), MOD g1 b c nd node n wi sn ns → MW d g1 nd b c Q q W (t + 1) m (L + 1) (up cw L kk) (up ci L v) → MT d g1 nd b c Q p W t m L cw ci) → Ex MX2_addCode (d + 2 * k) [.inr (jP h2 49 1), .inl x] h2 0 0 (fun r h3 => V MX5_readTerm (d + 2 * k + 8) 168 [some (.inr 49), some (.inl u1), some (.inl u2), u3] (r.toList ++ []) h3 0 0 (TPost h0 D n b c nd node wi sn ns p t m L cw ci)) := by
    intro q h2 kk v x u1 u2 u3 ht hC2 hpq hx hk hM
    have hB3 := hB.cf hC2.1
    rw [hB3.1.2.2]
    refine Ex.mono (eX2_addCode (k := kk) (v := v) hB hC2 (by omega) hx) ?_
    rintro r h3 ⟨rfl, hC3⟩
    have e3 : hq (up cw L kk) (L + 1) = hq cw L + 1 := by rw [hq_s, if_neg (by omega), if_neg (by omega)]
    apply bX5_readTerm_168
    exact Or.inl ⟨rfl, q, t + 1, m, L + 1, _, _, hC3, ⟨hpq, by omega, by omega, Nat.le_refl m, by omega, by omega, e3⟩, HS_up pre3 (by rw [e3]; omega) (by rw [e3]; omega) (by omega), hM⟩
  refine Ex_of_V tX5_readTerm (Nat.le_of_ble_eq_true rfl) ?_
  rw [show d + 8 + 2 * k = d + 2 * k + 8 by omega]
  apply bX5_readTerm_0
  case q1 => rw [esg, h4]; intro y y2; exact nomark 33 (Or.inl rfl) y y2
  case q3 => rw [esg, h4]; intro _ y y2; exact nomark 40 (Or.inr rfl) y y2
  case e1 => rw [esg, h4]; intro y y2; rw [y]; exact mark 33 (Or.inl rfl) y y2
  case e3 => rw [esg, h4]; intro _ y y2; rw [y]; exact mark 40 (Or.inr rfl) y y2
  case q2 =>
    rw [esg, h3]
    intro y y2 y3
    exact Or.inr ⟨rfl, p, hC.1, hfail, fun d' g1 Q W hMD hk => MT_bad hMD.1 (nm y y2) (Or.inr (by omega)) hk⟩
  case e2 =>
    rw [esg, h3, b1.2.1]
    intro y y2 y3
    have hC1 := hC.t1
    have hB2 := hB.cf hC1.1
    refine Ex.mono (eX7_number hB2.2.1 hC1.2.1) ?_
    rintro r h2 ⟨rfl, rfl⟩
    apply bX5_readTerm_124
    case e2 =>
      intro z
      have hs : tso b c p = 2 := Classical.byContradiction fun z2 => z (if_neg z2)
      have hv := tva_num hby hs
      have hplt : p < c := tso_lt (b := b) (by rw [hs]; decide)
      have hnx := (tnx_b (b := b) (c := c) hp1).2 hplt
      have en : tnu b c p = tva b c p := if_pos hs
      rw [hB2.1.2.1]
      refine Ex.mono (eX7_toNext hB2.2.1 (ten_b hC1.2.1.1).1 hC1.2.1.2.2.1) ?_
      rintro r h5 ⟨rfl, f5, hp5⟩
      have hC5 := hC1.nx f5 hp5
      have hB5 := hB.cf hC5.1
      apply bX5_readTerm_138
      case e1 =>
        rw [en]
        exact fin (tnx b c p) h5 0 (tva b c p) (tva b c p) _ _ _ (by omega) hC5 hnx (by unfold enc; rw [if_pos rfl]) (Or.inl ⟨rfl, hv⟩) (fun d' g1 Q W hMD hk => MT_num hMD.1 hMD.2.1 hnd hs (by omega) hk)
      all_goals first
        | exact hB5.1.1
        | (rw [hB5.1.2.2]; exact hB5.2.2.1.1)
    case e1 =>
      intro z
      have hs2 : tso b c p ≠ 2 := by
        intro z2
        have := tva_num hby z2
        have en : tnu b c p = tva b c p := if_pos z2
        omega
      refine Ex.mono (eX5_readPath hB2.1 hB2.2.1 hC1.2.1 hB2.2.2.1 (by rcases hB2.2.2.2.2.1 with e | e <;> omega) hB2.2.2.2.2.2.1 hB2.2.2.2.2.2.2.1) ?_
      rintro r h5 ⟨rfl, f5, hp5⟩
      have hC5 := hC1.nx f5 hp5
      have hB5 := hB.cf hC5.1
      have hpb := ppf_b (node := node) (n := n) (wi := wi) (sn := sn) (ns := ns) hby 5 p (-9) hp1
      apply bX5_readTerm_145
      case q1 =>
        intro z2
        refine Or.inr ⟨rfl, (ppf node n wi sn ns b c 5 p (-9)).2, hC5.1, ⟨hp5.2.1, hp5.1⟩, fun d' g1 Q W hMD hk => ?_⟩
        by_cases hs : tso b c p = 1
        · exact MT_path hMD.1 hMD.2.1 hnd hMD.2.2 b7 hs (by omega) (fun z3 => absurd z2 z3) (fun _ => hk)
        · have e5 : ppf node n wi sn ns b c 5 p (-9) = (-9, p) := ppf_0 hs
          rw [e5] at hk
          exact MT_bad hMD.1 (nm y y2) (Or.inl ⟨hs2, hs⟩) hk
      case r1 => intro z2; have := (hpb.2.2 z2).2; exact ⟨by omega, by omega⟩
      case e1 =>
        intro z2
        have hs : tso b c p = 1 := Classical.byContradiction fun z3 => z2 (by rw [ppf_0 z3])
        have hv := (hpb.2.2 z2)
        exact fin _ h5 1 _ _ _ _ _ (by omega) hC5 hv.1 (by unfold enc; rw [if_neg (by decide), if_pos rfl]) (Or.inr ⟨rfl, hv.2⟩) (fun d' g1 Q W hMD hk => MT_path hMD.1 hMD.2.1 hnd hMD.2.2 b7 hs (by omega) (fun _ => hk) (fun z3 => absurd z3 z2))
      all_goals first
        | exact hB5.1.1
        | (rw [hB5.1.2.2]; exact hB5.2.2.1.1)
        | (intros; rw [hB5.1.2.2]; exact hB5.2.2.1.1)
    all_goals first
      | exact hB2.1.1
      | (rw [hB2.1.2.1]; exact hB2.2.1.1)
      | (rw [hB2.1.2.2]; exact hB2.2.2.1.1)
  all_goals first
    | exact b1.1
    | (rw [b1.2.1]; exact b2.1)
    | (rw [h4]; intros; exact ⟨by omega, by omega⟩)
    | (rw [h3]; intros; exact ⟨by omega, by omega⟩)
theorem RTP_all (hB : CBS h0 D b c node n nw nd wi sn ns code cm) (hnd : nd ≤ 3) : ∀ k, RTP h0 D n b c nd node wi sn ns k := by
  intro k
  induction k using Nat.strongRecOn with
  | ind k ih => exact RTP_of hB hnd ih
/-- a whole expression -/
theorem eX5_readExpression {d : Nat} (hB : CBS h0 D b c node n nw nd wi sn ns code cm) (hnd : nd ≤ 3) (hC : CXS h0 D n h b c p 0 0 0 cw ci) : Ex MX5_readExpression (d + 21) [.inr 49] h 0 0 (EPost h0 D n b c nd node wi sn ns p 0 0 0 cw ci) :=
  REP_of (k := 6) hB hnd (fun j _ => RTP_all hB hnd j) d h p 0 0 0 cw ci (by omega) hC ⟨by omega, by omega, Nat.le_refl _, fun j hj => absurd hj (Nat.not_lt_zero _)⟩
end MT2
