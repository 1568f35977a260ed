/-! ===== the model: values of all nodes, at a time ===== -/
section KR
variable {h g : jH} {node wi sn code cm w s : Nat → Int} {n nw nd ns : Nat} {K : Int}
/-- what is told, as the model keeps it -/
def MD (h : jH) (node : Nat → Int) (n nw nd : Nat) (wi sn : Nat → Int) (ns : Nat) (code cm : Nat → Int) : Prop :=
  jI h 476 1 = (n : Int) ∧ jI h 476 2 = (nw : Int) ∧ jI h 476 3 = (nd : Int) ∧ jI h 476 6 = (ns : Int) ∧ jX h 477 = node ∧ jX h 478 = wi ∧ jX h 479 = sn ∧ jX h 480 = code ∧ jX h 481 = cm
theorem MD.fx {P : Nat → Prop} (hD : MD h node n nw nd wi sn ns code cm) (h1 : FX P h g) (hp : ∀ b, P b → b < 477 ∨ 482 ≤ b) : MD g node n nw nd wi sn ns code cm := by
  have e : ∀ i, 477 ≤ i → i < 482 → jX g i = jX h i := fun i h0 h2 => h1.2.2.2.2.2 i (fun z => by have := hp i z; omega)
  unfold MD
  rw [h1.1, e 477 (by omega) (by omega), e 478 (by omega) (by omega), e 479 (by omega) (by omega), e 480 (by omega) (by omega), e 481 (by omega) (by omega)]
  exact hD
theorem eX9_laysNodes {d : Nat} (hM : MK h) (hD : MD h node n nw nd wi sn ns code cm) (hn : n ≤ 12) (hnw : nw ≤ 6) (hnd : nd ≤ 4) (hB : ∀ k, k < n → NB node nw nd ns code cm k) (hw : ∀ i, i < nw → jv (w i)) (hv : ∀ i, i < nw → jX h 495 i = w i) :
    Ex MX9_laysNodes (d + 2) [.inr 476] h 0 0 (fun v g => v = none ∧ FX (fun b => b = 493 ∨ b = 494) h g ∧ ∀ i, i < n → jX g 493 i = nvs node code cm w n i) := by
  refine Ex_of_V tX9_laysNodes (Nat.le_of_ble_eq_true rfl) ?_
  apply bX9_laysNodes_0
  have key : ∀ (t k : Nat) (g : jH), k + t = n → FX (fun b => b = 493 ∨ b = 494) h g → (∀ i, i < k → jX g 493 i = nvs node code cm w k i) →
      V MX9_laysNodes (d + 2) 2 [some (.inr 476), some (.inl (k : Int))] [] g 0 0 (fun v g => v = none ∧ FX (fun b => b = 493 ∨ b = 494) h g ∧ ∀ i, i < n → jX g 493 i = nvs node code cm w n i) := by
    intro t
    induction t with
    | zero =>
      intro k g hk fx h1
      obtain rfl : k = n := by omega
      have hM2 : MK g := hM.fr fx.2.1 fx.2.2.2.1
      have hD2 := hD.fx fx (fun b hb => by omega)
      have hng : ∀ P : Prop, ¬ (jI g 476 1 ≤ (k : Int)) → P := fun P q => absurd (by rw [hD2.1]; exact Int.le_refl _) q
      apply bX9_laysNodes_2
      case q1 => intro _; exact ⟨rfl, fx, h1⟩
      all_goals first
        | exact hM2.x
        | (rw [hM2.p0, hM2.s477]; done)
        | (rw [hM2.p36, hM2.s493]; done)
        | (rw [hM2.p38, hM2.s495]; done)
        | (intro q; exact hng _ q)
        | omega
    | succ t ih =>
      intro k g hk fx h1
      have hM2 : MK g := hM.fr fx.2.1 fx.2.2.2.1
      have hD2 := hD.fx fx (fun b hb => by omega)
      obtain ⟨m1, m2, m3, m4, m5, m6, m7, m8, m9⟩ := id hD2
      have hkn : (((k : Nat) : Int)).toNat = k := Int.toNat_natCast _
      have r0 : jX g (jP g 476 0) ((6 * (k : Int) + 0).toNat) = node (6 * k) := by rw [hM2.p0, m5, show (6 * (k : Int) + 0).toNat = 6 * k by omega]
      have r2 : jX g (jP g 476 0) ((6 * (k : Int) + 2).toNat) = node (6 * k + 2) := by rw [hM2.p0, m5, show (6 * (k : Int) + 2).toNat = 6 * k + 2 by omega]
      have r5 : jX g (jP g 476 0) ((6 * (k : Int) + 5).toNat) = node (6 * k + 5) := by rw [hM2.p0, m5, show (6 * (k : Int) + 5).toNat = 6 * k + 5 by omega]
      have hlt : ¬ (jI g 476 1 ≤ (k : Int)) := by rw [m1]; omega
      have hjv := nvs_v hw hB k (by omega)
      have hb := hB k (by omega)
      have next : ∀ (g2 : jH) (v : Int), FX (fun b => b = 493 ∨ b = 494) h g2 → jX g2 493 = jX g 493 → v = nvs node code cm w (k + 1) k → V MX9_laysNodes (d + 2) 2 [some (.inr 476), some (.inl (((k + 1 : Nat)) : Int))] [] (jsX g2 493 k v) 0 0 (fun v g => v = none ∧ FX (fun b => b = 493 ∨ b = 494) h g ∧ ∀ i, i < n → jX g 493 i = nvs node code cm w n i) := by
        intro g2 v fx2 e2 hv
        refine ih (k + 1) _ (by omega) (fx2.trans (FX.sX (Or.inl rfl))) (fun i hi => ?_)
        rw [jX_sX]
        by_cases q : i = k
        · subst q; rw [if_pos ⟨rfl, rfl⟩, hv]
        · rw [if_neg (fun z => q z.2), e2, h1 i (by omega), nvs_le (k := k) (n := k + 1) (by omega) (by omega)]
      have hcase : (node (6 * k) = 0 ∧ (0 ≤ node (6 * k + 5) ∧ node (6 * k + 5) < nw) ∧ w (wr node k) = nvs node code cm w (k + 1) k) ∨ (node (6 * k) = 1 ∧ 0 ≤ node (6 * k + 2) ∧ node (6 * k + 2) < k ∧ nvs node code cm w k (node (6 * k + 2)).toNat = nvs node code cm w (k + 1) k) ∨ (node (6 * k) = 2 ∧ (0 ≤ node (6 * k + 5) ∧ node (6 * k + 5) < nd) ∧ 0 ≤ cm (wr node k) ∧ CW code (40 * wr node k) (cm (wr node k)).toNat k ∧ sk code (40 * wr node k) (nvs node code cm w k) (cm (wr node k)).toNat 0 = nvs node code cm w (k + 1) k) := by
        rcases hb.1 with ⟨e, -, -, -, f⟩ | ⟨e, -, f1, f2⟩ | ⟨e, -, -, f0, f3, f1, f2⟩
        · refine Or.inl ⟨e, f, ?_⟩
          conv => rhs; unfold nvs
          rw [if_pos rfl, if_pos e]
        · refine Or.inr (Or.inl ⟨e, f1, f2, ?_⟩)
          conv => rhs; unfold nvs
          rw [if_pos rfl, if_neg (by omega), if_pos e]
        · refine Or.inr (Or.inr ⟨e, ⟨f0, f3⟩, f1, f2, ?_⟩)
          conv => rhs; unfold nvs
          rw [if_pos rfl, if_neg (by omega), if_neg (by omega)]
      have hj1 : (k : Int) + 1 = ((k + 1 : Nat) : Int) := by omega
      apply bX9_laysNodes_2
      case q1 => intro q; exact absurd q hlt
      case r1 => intro _ _ _; exact ⟨by omega, by omega⟩
      case r2 => intro _ _; exact ⟨by omega, by omega⟩
      case e1 =>
        rw [r0, r5]
        intro _ q1 q2
        obtain ⟨c1, ⟨c5, c6⟩, c2, c3, c4⟩ : node (6 * k) = 2 ∧ (0 ≤ node (6 * k + 5) ∧ node (6 * k + 5) < nd) ∧ 0 ≤ cm (wr node k) ∧ CW code (40 * wr node k) (cm (wr node k)).toNat k ∧ sk code (40 * wr node k) (nvs node code cm w k) (cm (wr node k)).toNat 0 = nvs node code cm w (k + 1) k := by
          rcases hcase with z | z | z
          · omega
          · omega
          · exact z
        rw [show node (6 * k + 5) = ((wr node k : Nat) : Int) by unfold wr; omega]
        refine Ex.mono (eX9_expressed (h := g) (q0 := wr node k) (m := (cm (wr node k)).toNat) (nv := nvs node code cm w k) hM2 (by unfold wr; omega) m8 (by rw [m9]; omega) c3 (by omega) h1 hjv) ?_
        rintro v g2 ⟨rfl, fx2⟩
        apply bX9_laysNodes_72
        case s1 => rw [hM2.p36, fx2.2.2.2.1, hM2.s493]
        case s2 => omega
        case s3 => rw [hM2.p36, fx2.2.2.2.1, hM2.s493]; show (k : Int) < 12; omega
        case r1 => exact ⟨by omega, by omega⟩
        case k1 =>
          rw [hj1, hkn, hM2.p36]
          exact next g2 _ (fx.trans (fx2.wide (fun b hb => Or.inr hb))) (fx2.2.2.2.2.2 493 (by omega)) c4
      case k1 =>
        rw [r0, r2]
        intro _ _ q1
        obtain ⟨c1, c2, c3, c4⟩ : node (6 * k) = 1 ∧ 0 ≤ node (6 * k + 2) ∧ node (6 * k + 2) < k ∧ nvs node code cm w k (node (6 * k + 2)).toNat = nvs node code cm w (k + 1) k := by
          rcases hcase with z | z | z
          · omega
          · exact z
          · omega
        rw [hj1, hkn, hM2.p36]
        exact next g _ fx rfl (by rw [h1 _ (by omega), c4])
      case k2 =>
        rw [r0, r5]
        intro _ q1
        obtain ⟨c1, ⟨c2, c3⟩, c4⟩ : node (6 * k) = 0 ∧ (0 ≤ node (6 * k + 5) ∧ node (6 * k + 5) < nw) ∧ w (wr node k) = nvs node code cm w (k + 1) k := by
          rcases hcase with z | z | z
          · exact z
          · omega
          · omega
        rw [hj1, hkn, hM2.p36, hM2.p38, fx.2.2.2.2.2 495 (by omega), hv _ (by omega)]
        exact next g _ fx rfl c4
      all_goals (try rw [r0])
      all_goals first
        | exact hM2.x
        | (rw [hM2.p0, hM2.s477]; done)
        | (rw [hM2.p36, hM2.s493]; done)
        | (rw [hM2.p38, hM2.s495]; done)
        | (intros; omega)
        | (rw [r5]; intros; rcases hcase with z | z | z <;> omega)
        | (rw [r2]; intros; rcases hcase with z | z | z <;> omega)
        | (intros; rw [hM2.p36, hM2.s493]; show (k : Int) < 12; omega)
        | (rw [r5, hM2.p38, hM2.s495]; intros; refine Int.lt_of_le_of_lt (b := 5) ?_ (by decide); rcases hcase with z | z | z <;> omega)
        | (rw [r2, hM2.p36, hM2.s493]; intros; refine Int.lt_of_le_of_lt (b := 11) ?_ (by decide); rcases hcase with z | z | z <;> omega)
  have h9 := key n 0 h (by omega) FX.rf (fun i hi => absurd hi (Nat.not_lt_zero _))
  exact h9
/-- the last block that begins not after t, among the first b -/
def lst (s : Nat → Int) (t : Int) : Nat → Int
  | 0 => -9
  | b + 1 => if s (11 + 33 * b) ≤ t then (b : Int) else lst s t b
theorem lst_p {t : Int} {b : Nat} (h1 : s (11 + 33 * b) ≤ t) : lst s t (b + 1) = (b : Int) := by
  conv => lhs; unfold lst
  rw [if_pos h1]
theorem lst_n {t : Int} {b : Nat} (h1 : ¬ s (11 + 33 * b) ≤ t) : lst s t (b + 1) = lst s t b := by
  conv => lhs; unfold lst
  rw [if_neg h1]
theorem lst_b (s : Nat → Int) (t : Int) : ∀ b : Nat, lst s t b = -9 ∨ (0 ≤ lst s t b ∧ lst s t b < b)
  | 0 => Or.inl rfl
  | b + 1 => by
    unfold lst
    split
    · right; omega
    · rcases lst_b s t b with q | q
      · exact Or.inl q
      · right; omega
theorem bat_lst (s : Nat → Int) (t : Int) : ∀ b : Nat, bat s t b = if lst s t b = -9 then -9 else if s (11 + 33 * (lst s t b).toNat + 1) ≠ -9 ∧ s (11 + 33 * (lst s t b).toNat + 1) < t then -9 else lst s t b
  | 0 => rfl
  | b + 1 => by
    have ih := bat_lst s t b
    by_cases q : s (11 + 33 * b) ≤ t
    · rw [lst_p q, if_neg (by omega), Int.toNat_natCast]
      conv => lhs; unfold bat
      rw [if_pos q]
    · rw [lst_n q, ← ih]
      conv => lhs; unfold bat
      rw [if_neg q]
theorem eX9_blockAt {d : Nat} {t : Int} (hM : MK h) (es : jX h 482 = s) (hs : SI s node n K) :
    Ex MX9_blockAt (d + 1) [.inr 476, .inl t] h 0 0 (fun v g => v = some (.inl (bat s t (s 3).toNat)) ∧ g = h) := by
  obtain ⟨i0, i1, i2, i3, i4, i5, i6, i7, i8, i9, i10⟩ := id hs
  refine Ex_of_V tX9_blockAt (Nat.le_of_ble_eq_true rfl) ?_
  apply bX9_blockAt_0
  have h3 : jX h (jP h 476 9) 3 = s 3 := by rw [hM.p9, es]
  have key : ∀ (k b : Nat), b + k = (s 3).toNat → V MX9_blockAt (d + 1) 5 [some (.inr 476), some (.inl t), some (.inl (lst s t b)), some (.inl (b : Int))] [] h 0 0 (fun v g => v = some (.inl (bat s t (s 3).toNat)) ∧ g = h) := by
    intro k
    induction k with
    | zero =>
      intro b hb
      obtain rfl : b = (s 3).toNat := by omega
      have hl := lst_b s t (s 3).toNat
      have he := bat_lst s t (s 3).toNat
      have hng : ∀ P : Prop, ¬ (jX h (jP h 476 9) 3 ≤ (((s 3).toNat : Nat) : Int)) → P := fun P q => absurd (by rw [h3]; omega) q
      generalize lst s t (s 3).toNat = z at hl he ⊢
      have hz : z ≠ -9 → jX h (jP h 476 9) ((11 + 33 * z + 1).toNat) = s (11 + 33 * z.toNat + 1) := fun q => by rw [hM.p9, es, show (11 + 33 * z + 1).toNat = 11 + 33 * z.toNat + 1 by omega]
      apply bX9_blockAt_5
      case q1 => intro _ q; rw [he, if_pos q, q]; exact ⟨rfl, rfl⟩
      case q2 => intro _ q q2; rw [hz q] at q2; rw [he, if_neg q, if_neg (fun z => z.1 q2)]; exact ⟨rfl, rfl⟩
      case q3 => intro _ q q2 q3; rw [hz q] at q3; rw [he, if_neg q, if_neg (by omega)]; exact ⟨rfl, rfl⟩
      case q4 => intro _ q q2 q3; rw [hz q] at q2 q3; rw [he, if_neg q, if_pos ⟨q2, by omega⟩]; exact ⟨rfl, rfl⟩
      all_goals first
        | exact hM.x
        | (rw [hM.p9, hM.s482]; done)
        | (intro q; exact hng _ q)
        | (intros; exact ⟨by omega, by omega⟩)
        | (intros; omega)
        | (intros; rw [hM.p9, hM.s482]; refine Int.lt_of_le_of_lt (b := 208) ?_ (by decide); omega)
    | succ k ih =>
      intro b hb
      have hng : ∀ P : Prop, (jX h (jP h 476 9) 3 ≤ (b : Int)) → P := fun P q => absurd q (by rw [h3]; omega)
      have hb0 : jX h (jP h 476 9) ((11 + 33 * (b : Int)).toNat) = s (11 + 33 * b) := by rw [hM.p9, es, show (11 + 33 * (b : Int)).toNat = 11 + 33 * b by omega]
      apply bX9_blockAt_5
      case k1 =>
        rw [hb0]
        intro _ q
        have h9 := ih (b + 1) (by omega)
        rw [lst_n (by omega)] at h9
        rw [show (b : Int) + 1 = ((b + 1 : Nat) : Int) by omega]
        exact h9
      case k2 =>
        rw [hb0]
        intro _ q
        have h9 := ih (b + 1) (by omega)
        rw [lst_p (by omega)] at h9
        rw [show (b : Int) + 1 = ((b + 1 : Nat) : Int) by omega]
        exact h9
      all_goals first
        | exact hM.x
        | (rw [hM.p9, hM.s482]; done)
        | (intro q; exact hng _ q)
        | (intros; exact ⟨by omega, by omega⟩)
        | (intros; omega)
        | (intros; rw [hM.p9, hM.s482]; refine Int.lt_of_le_of_lt (b := 208) ?_ (by decide); omega)
  have h9 := key (s 3).toNat 0 (by omega)
  exact h9
/-- the wires at a time, and all nodes then -/
theorem wv_v (hN : WN node n) (hs : SI s node n K) (t : Int) {w0 : Nat} (h6 : w0 < 6) : jv (wv s t w0) := by
  obtain ⟨i0, i1, i2, i3, i4, i5, i6, i7, i8, i9, i10⟩ := id hs
  unfold wv
  split
  · exact Or.inl rfl
  · rename_i q
    have hb := bat_lt s t (s 3).toNat
    have hsb := i10 (bat s t (s 3).toNat).toNat (by omega)
    generalize (bat s t (s 3).toNat).toNat = b at hsb ⊢
    obtain ⟨c0, c1, c2, c3, c4, c5, c6, c7⟩ := hsb
    have key : ∀ m : Nat, (m : Int) ≤ s (11 + 33 * b + 2) → jv (wch s (11 + 33 * b) t w0 m) := by
      intro m
      induction m with
      | zero => intro _; have := c5 w0 h6; exact Or.inr this
      | succ m ih =>
        intro hm
        unfold wch
        split
        · have := c6 m (by omega); exact Or.inr ⟨this.2.2.1, this.2.2.2.1⟩
        · exact ih (by omega)
    exact key _ (by omega)
theorem eX9_laysAt {d : Nat} {t : Int} (hM : MK h) (hD : MD h node n nw nd wi sn ns code cm) (hn : n ≤ 12) (hnw : nw ≤ 6) (hnd : nd ≤ 4) (hB : ∀ k, k < n → NB node nw nd ns code cm k) (hN : WN node n) (es : jX h 482 = s) (hs : SI s node n K) :
    Ex MX9_laysAt (d + 3) [.inr 476, .inl t] h 0 0 (fun v g => v = none ∧ FX (fun b => b = 493 ∨ b = 494 ∨ b = 495) h g ∧ ∀ i, i < n → jX g 493 i = nvs node code cm (wv s t) n i) := by
  obtain ⟨i0, i1, i2, i3, i4, i5, i6, i7, i8, i9, i10⟩ := id hs
  refine Ex_of_V tX9_laysAt (Nat.le_of_ble_eq_true rfl) ?_
  apply bX9_laysAt_0
  case s1 => exact hM.x
  refine Ex.mono (eX9_blockAt hM es hs) ?_
  rintro v g0 ⟨rfl, rfl⟩
  show V MX9_laysAt (d + 3) 5 _ [.inl (bat s t (s 3).toNat)] g0 0 0 _
  apply bX9_laysAt_5
  have hbl := bat_lt s t (s 3).toNat
  -- all nodes, behind the wires
  have last : ∀ (g : jH) (i3 : Int) (u4 : Option jA), FX (fun b => b = 495) g0 g → (∀ w0, w0 < 6 → jX g 495 w0 = wv s t w0) → Ex MX9_laysNodes (d + 2) [.inr 476] g 0 0 (fun v h2 => V MX9_laysAt (d + 3) 130 [some (.inr 476), some (.inl t), some (.inl (bat s t (s 3).toNat)), some (.inl i3), u4] (v.toList ++ []) h2 0 0 (fun v g => v = none ∧ FX (fun b => b = 493 ∨ b = 494 ∨ b = 495) g0 g ∧ ∀ i, i < n → jX g 493 i = nvs node code cm (wv s t) n i)) := by
    intro g i3 u4 fx hw
    refine Ex.mono (eX9_laysNodes (h := g) (w := wv s t) (hM.fr fx.2.1 fx.2.2.2.1) (hD.fx fx (fun b hb => by omega)) hn hnw hnd hB (fun i hi => wv_v hN hs t (by omega)) (fun i hi => hw i (by omega))) ?_
    rintro v g2 ⟨rfl, fx2, h2⟩
    apply bX9_laysAt_130
    exact ⟨rfl, (fx.wide (fun b hb => Or.inr (Or.inr hb))).trans (fx2.wide (fun b hb => by omega)), h2⟩
  generalize hz : bat s t (s 3).toNat = z at hbl last ⊢
  -- the changes of the block
  have chg : ∀ (k j : Nat) (g : jH) (u4 : Option jA), z ≠ -9 → (j : Int) + k = s (11 + 33 * z.toNat + 2) → FX (fun b => b = 495) g0 g → (∀ w0, w0 < 6 → jX g 495 w0 = wch s (11 + 33 * z.toNat) t w0 j) →
      V MX9_laysAt (d + 3) 52 [some (.inr 476), some (.inl t), some (.inl z), some (.inl (j : Int)), u4] [] g 0 0 (fun v g => v = none ∧ FX (fun b => b = 493 ∨ b = 494 ∨ b = 495) g0 g ∧ ∀ i, i < n → jX g 493 i = nvs node code cm (wv s t) n i) := by
    intro k
    induction k with
    | zero =>
      intro j g u4 hz9 hj fx hw
      have hM2 : MK g := hM.fr fx.2.1 fx.2.2.2.1
      have es2 : jX g 482 = s := (fx.2.2.2.2.2 482 (by omega)).trans es
      have hm : jX g (jP g 476 9) ((11 + 33 * z + 2).toNat) = (j : Int) := by rw [hM2.p9, es2, show (11 + 33 * z + 2).toNat = 11 + 33 * z.toNat + 2 by omega]; omega
      have hng : ∀ P : Prop, ¬ (jX g (jP g 476 9) ((11 + 33 * z + 2).toNat) ≤ (j : Int)) → P := fun P q => absurd (by rw [hm]; exact Int.le_refl _) q
      apply bX9_laysAt_52
      case e1 => intro q; exact absurd q hz9
      case e2 =>
        intro _ _
        refine last g _ _ fx (fun w0 h6 => ?_)
        rw [hw w0 h6]
        unfold wv
        rw [hz, if_neg hz9, show (s (11 + 33 * z.toNat + 2)).toNat = j by omega]
      all_goals first
        | exact hM2.x
        | (rw [hM2.p9, hM2.s482]; done)
        | (rw [hM2.p38, hM2.s495]; done)
        | (intro _ q; exact hng _ q)
        | (intros; exact ⟨by omega, by omega⟩)
        | (intros; omega)
        | (intros; rw [hM2.p9, hM2.s482]; refine Int.lt_of_le_of_lt (b := 208) ?_ (by decide); omega)
    | succ k ih =>
      intro j g u4 hz9 hj fx hw
      have hM2 : MK g := hM.fr fx.2.1 fx.2.2.2.1
      have es2 : jX g 482 = s := (fx.2.2.2.2.2 482 (by omega)).trans es
      have hm : jX g (jP g 476 9) ((11 + 33 * z + 2).toNat) = s (11 + 33 * z.toNat + 2) := by rw [hM2.p9, es2, show (11 + 33 * z + 2).toNat = 11 + 33 * z.toNat + 2 by omega]
      have hng : ∀ P : Prop, (jX g (jP g 476 9) ((11 + 33 * z + 2).toNat) ≤ (j : Int)) → P := fun P q => absurd q (by rw [hm]; omega)
      obtain ⟨c0, c1, c2, c3, c4, c5, c6, c7⟩ := i10 z.toNat (by omega)
      obtain ⟨y1, y2, y3, y4, y5, y6, k2, y7, y8, y9⟩ := c6 j (by omega)
      have y10 := hN.2 k2 y7 y8
      have e0 : jX g (jP g 476 9) ((11 + 33 * z + 9 + 3 * (j : Int)).toNat) = s (11 + 33 * z.toNat + 9 + 3 * j) := by rw [hM2.p9, es2, show (11 + 33 * z + 9 + 3 * (j : Int)).toNat = 11 + 33 * z.toNat + 9 + 3 * j by omega]
      have e1 : jX g (jP g 476 9) ((11 + 33 * z + 9 + 3 * (j : Int) + 1).toNat) = s (11 + 33 * z.toNat + 9 + 3 * j + 1) := by rw [hM2.p9, es2, show (11 + 33 * z + 9 + 3 * (j : Int) + 1).toNat = 11 + 33 * z.toNat + 9 + 3 * j + 1 by omega]
      have e2 : jX g (jP g 476 9) ((11 + 33 * z + 9 + 3 * (j : Int) + 2).toNat) = s (11 + 33 * z.toNat + 9 + 3 * j + 2) := by rw [hM2.p9, es2, show (11 + 33 * z + 9 + 3 * (j : Int) + 2).toNat = 11 + 33 * z.toNat + 9 + 3 * j + 2 by omega]
      have hj1 : (j : Int) + 1 = ((j + 1 : Nat) : Int) := by omega
      apply bX9_laysAt_52
      case e1 => intro q; exact absurd q hz9
      case e2 => intro _ q; exact hng _ q
      case k1 =>
        rw [e0]
        intro _ _ q
        rw [hj1]
        refine ih (j + 1) g _ hz9 (by omega) fx (fun w0 h6 => ?_)
        rw [hw w0 h6]
        conv => rhs; unfold wch
        rw [if_neg (by omega)]
      case k2 =>
        rw [e0, e1, e2]
        intro _ _ q
        rw [hj1, hM2.p38]
        refine ih (j + 1) _ _ hz9 (by omega) (fx.trans (FX.sX rfl)) (fun w0 h6 => ?_)
        conv => rhs; unfold wch
        rw [jX_sX]
        by_cases q2 : w0 = (s (11 + 33 * z.toNat + 9 + 3 * j + 1)).toNat
        · rw [if_pos ⟨rfl, q2⟩, if_pos (by omega)]
        · rw [if_neg (fun z => q2 z.2), if_neg (by omega)]; exact hw w0 h6
      all_goals (try rw [e0])
      all_goals first
        | exact hM2.x
        | (rw [hM2.p9, hM2.s482]; done)
        | (rw [hM2.p38, hM2.s495]; done)
        | (intros; exact ⟨by omega, by omega⟩)
        | (intros; omega)
        | (intros; rw [hM2.p9, hM2.s482]; refine Int.lt_of_le_of_lt (b := 208) ?_ (by decide); omega)
        | (intros; rw [e1]; omega)
        | (intros; rw [e1, hM2.p38, hM2.s495]; refine Int.lt_of_le_of_lt (b := 5) ?_ (by decide); omega)
  -- the frame
  have frm : ∀ (k w1 : Nat) (g : jH), w1 + k = 6 → FX (fun b => b = 495) g0 g → (∀ w0, w0 < w1 → jX g 495 w0 = if z = -9 then -7 else s (11 + 33 * z.toNat + 3 + w0)) →
      V MX9_laysAt (d + 3) 8 [some (.inr 476), some (.inl t), some (.inl z), some (.inl (w1 : Int)), none] [] g 0 0 (fun v g => v = none ∧ FX (fun b => b = 493 ∨ b = 494 ∨ b = 495) g0 g ∧ ∀ i, i < n → jX g 493 i = nvs node code cm (wv s t) n i) := by
    intro k
    induction k with
    | zero =>
      intro w1 g hw1 fx hw
      obtain rfl : w1 = 6 := by omega
      have hM2 : MK g := hM.fr fx.2.1 fx.2.2.2.1
      apply bX9_laysAt_8
      case k1 =>
        intro _
        by_cases hz9 : z = -9
        · apply bX9_laysAt_52
          case e1 =>
            intro _
            refine last g _ _ fx (fun w0 h6 => ?_)
            rw [hw w0 h6, if_pos hz9]
            unfold wv
            rw [hz, if_pos hz9]
          all_goals first
            | exact hM2.x
            | (rw [hM2.p9, hM2.s482]; done)
            | (rw [hM2.p38, hM2.s495]; done)
            | (intro q; exact absurd hz9 q)
        · refine chg (s (11 + 33 * z.toNat + 2)).toNat 0 g none hz9 ?_ fx (fun w0 h6 => ?_)
          · have := (i10 z.toNat (by omega)).2.2.2.1
            omega
          · rw [hw w0 h6, if_neg hz9]; rfl
      all_goals first
        | exact hM2.x
        | (rw [hM2.p9, hM2.s482]; done)
        | (rw [hM2.p38, hM2.s495]; done)
        | (intro q; exact absurd (by decide) q)
    | succ k ih =>
      intro w1 g hw1 fx hw
      have hM2 : MK g := hM.fr fx.2.1 fx.2.2.2.1
      have es2 : jX g 482 = s := (fx.2.2.2.2.2 482 (by omega)).trans es
      have hj1 : (w1 : Int) + 1 = ((w1 + 1 : Nat) : Int) := by omega
      apply bX9_laysAt_8
      case k1 => intro q; omega
      case k2 =>
        intro _ hz9
        rw [hM2.p9, es2, show (11 + 33 * z + 3 + (w1 : Int)).toNat = 11 + 33 * z.toNat + 3 + w1 by omega, hM2.p38, hj1, Int.toNat_natCast]
        refine ih (w1 + 1) _ (by omega) (fx.trans (FX.sX rfl)) (fun w0 h6 => ?_)
        rw [jX_sX]
        by_cases q : w0 = w1
        · rw [if_pos ⟨rfl, q⟩, if_neg hz9, q]
        · rw [if_neg (fun z => q z.2)]; exact hw w0 (by omega)
      case k3 =>
        intro _ hz9
        rw [hM2.p38, hj1, Int.toNat_natCast]
        refine ih (w1 + 1) _ (by omega) (fx.trans (FX.sX rfl)) (fun w0 h6 => ?_)
        rw [jX_sX]
        by_cases q : w0 = w1
        · rw [if_pos ⟨rfl, q⟩, if_pos hz9]
        · rw [if_neg (fun z => q z.2)]; exact hw w0 (by omega)
      all_goals first
        | exact hM2.x
        | (rw [hM2.p9, hM2.s482]; done)
        | (rw [hM2.p38, hM2.s495]; done)
        | (intros; exact ⟨by omega, by omega⟩)
        | (intros; omega)
        | (intros; rw [hM2.p9, hM2.s482]; refine Int.lt_of_le_of_lt (b := 208) ?_ (by decide); omega)
        | (intros; rw [hM2.p38, hM2.s495]; refine Int.lt_of_le_of_lt (b := 5) ?_ (by decide); omega)
  have h9 := frm 6 0 g0 (by omega) FX.rf (fun w0 hw0 => absurd hw0 (Nat.not_lt_zero _))
  exact h9
end KR
