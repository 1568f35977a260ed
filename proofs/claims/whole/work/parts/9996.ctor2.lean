/-! ===== constructors: Changes, Block, Reader, Recording, Past ===== -/
section NL
variable {h g h0 : jH} {a c m d n r B : Nat} {l : List (Nat × Nat)} {T U : List (Nat × Nat × Nat)}
theorem eX1_init (h2 : 2 ≤ a) (hn : n ≤ 1000) (hC : CT a 1 (a + 1) [] [] [] h0 h) : Ex MX1_init d [.inr a, .inl (n : Int)] h 3 (3 * n) (fun v g => v = none ∧ CT a 1 (a + 4) [(3, a + 3), (2, a + 2), (1, a + 1)] [(a + 3, 16, n), (a + 2, 16, n), (a + 1, 16, n)] [] h0 g) := by
  have n0 : (0 : Int) ≤ (n : Int) := by omega
  have n1 : (n : Int) ≤ 100000 := by omega
  have en : (n : Int).toNat = n := Int.toNat_natCast n
  refine Ex_of_V tX1_init (Nat.le_of_ble_eq_true rfl) ?_
  refine V_aload_n (i := 0) dX1_init_0 rfl rfl ?_
  refine V_objI dX1_init_1 lX1_1 jobI jobC h2 (Nat.le_of_ble_eq_true rfl) ?_
  refine V_aload_n (i := 0) dX1_init_4 rfl rfl ?_
  refine V_iload_n (i := 1) dX1_init_5 rfl rfl ?_
  refine V_cost (mc' := 2 + 1) (ms' := 2 * n + (n : Int).toNat) rfl (by omega) ?_
  refine V_newi dX1_init_6 jacI n0 n1 ?_
  refine V_putF (ci := 1) (kf := 1) dX1_init_8 gX1_7 rfl rfl rfl rfl hC.sh ?_
  rw [en]
  refine V_arr hC ?_
  clear hC
  intro g hC
  refine V_aload_n (i := 0) dX1_init_11 rfl rfl ?_
  refine V_iload_n (i := 1) dX1_init_12 rfl rfl ?_
  refine V_cost (mc' := 1 + 1) (ms' := n + (n : Int).toNat) rfl (by omega) ?_
  refine V_newi dX1_init_13 jacI n0 n1 ?_
  refine V_putF (ci := 1) (kf := 2) dX1_init_15 gX1_13 rfl rfl rfl rfl hC.sh ?_
  rw [en]
  refine V_arr hC ?_
  clear hC
  intro g hC
  refine V_aload_n (i := 0) dX1_init_18 rfl rfl ?_
  refine V_iload_n (i := 1) dX1_init_19 rfl rfl ?_
  refine V_cost (mc' := 0 + 1) (ms' := 0 + (n : Int).toNat) rfl (by omega) ?_
  refine V_newi dX1_init_20 jacI n0 n1 ?_
  refine V_putF (ci := 1) (kf := 3) dX1_init_22 gX1_16 rfl rfl rfl rfl hC.sh ?_
  rw [en]
  refine V_arr hC ?_
  clear hC
  intro g hC
  exact V_ret (v := none) rfl rfl dX1_init_25 trivial rfl ⟨rfl, hC⟩
theorem eX5_init {x y : Nat} (h2 : 2 ≤ a) (hs : (jS h a).1 = 5) : Ex MX5_init d [.inr a, .inr x, .inr y] h 0 0 (fun v g => v = none ∧ g = jsP (jsP h a 0 x) a 1 y) := by
  refine Ex_of_V tX5_init (Nat.le_of_ble_eq_true rfl) ?_
  refine V_aload_n (i := 0) dX5_init_0 rfl rfl ?_
  refine V_objI dX5_init_1 lX5_3 jobI jobC h2 (Nat.le_of_ble_eq_true rfl) ?_
  refine V_aload_n (i := 0) dX5_init_4 rfl rfl ?_
  refine V_aload_n (i := 1) dX5_init_5 rfl rfl ?_
  refine V_putF (ci := 5) (kf := 0) dX5_init_6 gX5_9 rfl rfl rfl rfl hs ?_
  refine V_aload_n (i := 0) dX5_init_9 rfl rfl ?_
  refine V_aload_n (i := 2) dX5_init_10 rfl rfl ?_
  refine V_putP (ci := 5) (kf := 1) dX5_init_11 fX5_15 rfl rfl hs ?_
  exact V_ret (v := none) rfl rfl dX5_init_14 trivial rfl ⟨rfl, rfl⟩
theorem BK.sm (hB : BK h B) (f : SM B (B + 6) h g) : BK g B := by
  unfold BK at hB ⊢
  rw [(f B (by omega) (by omega)).2.1, (f B (by omega) (by omega)).2.2.2.2, (f (B + 1) (by omega) (by omega)).2.2.2.2, (f (B + 2) (by omega) (by omega)).2.1, (f (B + 2) (by omega) (by omega)).2.2.2.2, (f (B + 3) (by omega) (by omega)).2.2.2.2, (f (B + 4) (by omega) (by omega)).2.2.2.2, (f (B + 5) (by omega) (by omega)).2.2.2.2]
  exact hB
theorem eX0_init (h2 : 2 ≤ a) (hC : CT a 0 (a + 1) [] [] [] h0 h) : Ex MX0_init (d + 1) [.inr a] h 5 40 (fun v g => v = none ∧ jN g = a + 6 ∧ BK g a ∧ SM 0 a h0 g) := by
  refine Ex_of_V tX0_init (Nat.le_of_ble_eq_true rfl) ?_
  refine V_aload_n (i := 0) dX0_init_0 rfl rfl ?_
  refine V_objI dX0_init_1 lX0_3 jobI jobC h2 (Nat.le_of_ble_eq_true rfl) ?_
  refine V_aload_n (i := 0) dX0_init_4 rfl rfl ?_
  refine V_bipush dX0_init_5 (by decide +kernel) ⟨by decide, by decide⟩ ?_
  refine V_cost (mc' := 4 + 1) (ms' := 28 + Int.toNat 12) rfl rfl ?_
  refine V_newi dX0_init_7 jacI (by decide) (by decide) ?_
  refine V_putF (ci := 0) (kf := 2) dX0_init_9 gX0_9 rfl rfl rfl rfl hC.sh ?_
  refine V_arr hC ?_
  clear hC
  intro g hC
  refine V_aload_n (i := 0) dX0_init_12 rfl rfl ?_
  refine V_cost (mc' := 3 + 1) (ms' := 24 + 4) rfl rfl ?_
  refine V_new (ci := 1) (n := 4) dX0_init_13 rfl (by decide) clX0_15 in1 ini1 ?_
  refine V_dup dX0_init_16 ?_
  refine V_bipush dX0_init_17 (by decide +kernel) ⟨by decide, by decide⟩ ?_
  rw [hC.1]
  have hI := CT.new (kd := 1) (n := 4) hC.1
  refine V_cost (mc' := 3 + 0) (ms' := 3 * 8 + 0) rfl rfl ?_
  refine V_callI (M := MX0_init) (d := (d + 1)) (As := [.inl ((8 : Nat) : Int)]) (rest := [.inr (a + 1 + 1), .inr a]) dX0_init_19 tX1_init iX1_init lX0_17 rfl hI.2.2.1.1 (by decide) rfl rfl (Nat.le_of_ble_eq_true rfl) (show d + 1 ≤ (d + 1) by omega) (Ex.mono (eX1_init (by omega) (by decide) hI) ?_)
  rintro v g2 ⟨rfl, hI2⟩
  obtain ⟨i1, i2, i3, i4⟩ := hI2
  have hO2 := hC.2.2.1.sm hC.2.1 (i4.sub (by omega) (by omega))
  refine V_putF (ci := 0) (kf := 3) dX0_init_22 gX0_20 rfl rfl rfl rfl hO2.1 ?_
  have hC3 := hC.obj (kf := 3) i4 i1 (by omega)
  have i5 := i3.sm i2 (SM.sP (a := a) (kf := 3) (v := a + 1 + 1) (by omega))
  refine V_ret (v := none) rfl rfl dX0_init_25 trivial rfl ⟨rfl, hC3.1, ?_, hC3.2.2.2⟩
  obtain ⟨p1, p2, p3, p4, p5⟩ := hC3.2.2.1
  obtain ⟨q1, q2, q3, q4, q5⟩ := i5
  refine ⟨p1, by rw [p3]; rfl, by rw [p3]; rfl, (p4 (a + 1, 16, 12) (by simp)).2.1, q1, by rw [q3]; rfl, by rw [q3]; rfl, by rw [q3]; rfl, (q4 (a + 1 + 1 + 1, 16, 8) (by simp)).2.1, (q4 (a + 1 + 1 + 2, 16, 8) (by simp)).2.1, (q4 (a + 1 + 1 + 3, 16, 8) (by simp)).2.1⟩
def RC (h : jH) (r : Nat) : Prop := SK h r ∧ RB h r
theorem RC.sm (hR : RC h r) (f : SM r (r + 39) h g) : RC g r := by
  obtain ⟨⟨s1, s2, s3, s4, s5, s6⟩, b1, b2⟩ := hR
  have f0 := f r (by omega) (by omega)
  have f1 := f (r + 1) (by omega) (by omega)
  have f2 := f (r + 2) (by omega) (by omega)
  exact ⟨⟨by rw [f0.2.2.2.2]; exact s1, by rw [f0.2.1]; exact s2, by rw [f0.2.1]; exact s3, by rw [f1.2.2.2.2]; exact s4, by rw [f2.2.2.2.2]; exact s5, fun j hj => (s6 j hj).sm (f.sub (by omega) (by omega))⟩, by rw [f1.2.2.2.1]; exact b1, by rw [f1.2.2.2.1]; exact b2⟩
theorem RecRep.sm {s node : Nat → Int} (hR : RecRep h r s node n) (hB : RB h r) (h6 : s 3 ≤ 6) (f : SM r (r + 39) h g) : RecRep g r s node n := by
  obtain ⟨r1, r2, r3, r4, r5, r6, r7⟩ := hR
  have f0 := f r (by omega) (by omega)
  have f1 := f (r + 1) (by omega) (by omega)
  have f2 := f (r + 2) (by omega) (by omega)
  refine ⟨by rw [f0.1]; exact r1, by rw [f0.1]; exact r2, by rw [f0.1]; exact r3, by rw [f0.1]; exact r4, by rw [f0.1]; exact r5, by rw [f2.2.2.1]; exact r6, fun i hi => ?_⟩
  obtain ⟨j, j1, j2⟩ := hB.1 i (by omega)
  have := r7 i hi
  rw [f1.2.2.2.1]
  rw [j2] at this ⊢
  exact this.eq (f _ (by omega) (by omega)).1 (f _ (by omega) (by omega)).1 (f _ (by omega) (by omega)).2.2.1 (f _ (by omega) (by omega)).2.2.1 (f _ (by omega) (by omega)).2.2.1 (f _ (by omega) (by omega)).2.2.1
theorem CT.sY {v k b : Nat} (hC : CT a c m l T [] h g) (hb : a ≤ b) : CT a c m l T [] h (jsY g b k v) :=
  ⟨hC.1, hC.2.1, ⟨hC.2.2.1.1, hC.2.2.1.2.1, hC.2.2.1.2.2.1, hC.2.2.1.2.2.2.1, fun u hu => absurd hu List.not_mem_nil⟩, hC.2.2.2.trans (SM.sY (by omega))⟩
/-- what is made within and put into an array -/
theorem CT.in_ {m' : Nat} {g' : jH} (hC : CT a c m l T U h g) (f : SM 0 m g g') (hN : jN g' = m') (hm : m < m') : CT a c m' l T U h g' :=
  ⟨hN, by have := hC.2.1; omega, (hC.2.2.1.sm hC.2.1 (f.sub (by omega) (by omega))).wide (by omega), hC.2.2.2.trans (f.sub (by omega) (by have := hC.2.1; omega))⟩
theorem eX6_init (h2 : 2 ≤ a) (hC : CT a 6 (a + 1) [] [] [] h0 h) : Ex MX6_init (d + 3) [.inr a] h 38 282 (fun v g => v = none ∧ jN g = a + 39 ∧ RC g a ∧ (∀ node, RecRep g a s00 node 0) ∧ SM 0 a h0 g) := by
  refine Ex_of_V tX6_init (Nat.le_of_ble_eq_true rfl) ?_
  refine V_aload_n (i := 0) dX6_init_0 rfl rfl ?_
  refine V_objI dX6_init_1 lX6_3 jobI jobC h2 (Nat.le_of_ble_eq_true rfl) ?_
  refine V_aload_n (i := 0) dX6_init_4 rfl rfl ?_
  refine V_bipush dX6_init_5 (by decide +kernel) ⟨by decide, by decide⟩ ?_
  refine V_cost (mc' := 37 + 1) (ms' := 276 + Int.toNat 6) rfl rfl ?_
  refine V_newq18 dX6_init_7 clX6_9 (by decide) (by decide) ?_
  refine V_putF (ci := 6) (kf := 5) dX6_init_10 gX6_11 rfl rfl rfl rfl hC.sh ?_
  refine V_arr hC ?_
  clear hC
  intro g hC
  refine V_aload_n (i := 0) dX6_init_13 rfl rfl ?_
  refine V_bipush dX6_init_14 (by decide +kernel) ⟨by decide, by decide⟩ ?_
  refine V_cost (mc' := 36 + 1) (ms' := 264 + Int.toNat 12) rfl rfl ?_
  refine V_newi dX6_init_16 jacI (by decide) (by decide) ?_
  refine V_putF (ci := 6) (kf := 6) dX6_init_18 gX6_17 rfl rfl rfl rfl hC.sh ?_
  refine V_arr hC ?_
  clear hC
  intro g hC
  refine V_iconst dX6_init_21 ⟨by decide, by decide⟩ ?_
  refine V_istore_n (i := 1) dX6_init_22 rfl (by decide) ?_
  have loop : ∀ w i : Nat, i + w = 6 → ∀ g, CT a 6 (a + 3 + 6 * i) [(6, a + 2), (5, a + 1)] [(a + 2, 16, 12), (a + 1, 18, 6)] [] h0 g → (∀ j, j < i → BK g (a + 3 + 6 * j) ∧ jY g (a + 1) j = a + 3 + 6 * j) → V MX6_init (d + 3) 23 [some (.inr a), some (.inl (i : Int))] [] g (6 * w) (44 * w) (fun v g => v = none ∧ jN g = a + 39 ∧ RC g a ∧ (∀ node, RecRep g a s00 node 0) ∧ SM 0 a h0 g) := by
    intro w
    induction w with
    | zero =>
      intro i hi g hC hb
      obtain rfl : i = 6 := by omega
      obtain ⟨o1, o2, o3, o4, o5⟩ := hC.2.2.1
      have p5 : jP g a 5 = a + 1 := by rw [o3]; rfl
      have s1 : jS g (a + 1) = (18, 6) := (o4 (a + 1, 18, 6) (by simp)).2.1
      refine V_iload_n (i := 1) dX6_init_23 rfl rfl ?_
      refine V_aload_n (i := 0) dX6_init_24 rfl rfl ?_
      refine V_getP dX6_init_25 fX6_11 rfl o1 ?_
      rw [p5]
      refine V_alen (t := 2) dX6_init_28 (by rw [s1]) (by decide) ?_
      rw [s1]
      refine V_icmp_ge (tgt := 51) dX6_init_29 (by decide) (fun c1 => ?_) (fun c1 => absurd (by decide) c1)
      refine V_aload_n (i := 0) dX6_init_51 rfl rfl ?_
      have sk : SK g a := ⟨o1, p5, by rw [o3]; rfl, s1, (o4 (a + 2, 16, 12) (by simp)).2.1, fun j hj => (hb j hj).1⟩
      have rb : RB g a := ⟨fun i hi => ⟨i, hi, (hb i hi).2⟩, fun i j hi hj z => by rw [(hb i hi).2, (hb j hj).2] at z; omega⟩
      refine V_cost (mc' := 0 + 0) (ms' := 0 + 0) rfl rfl ?_
      refine V_callV (M := MX6_init) (d := (d + 3)) (As := []) (rest := []) dX6_init_52 tX6_restart vX6_restart lX6_22 o1 ⟨by decide, rfl⟩ rfl rfl (Nat.le_of_ble_eq_true rfl) (show d + 2 + 1 ≤ (d + 3) by omega) (Ex.mono (eX6_restart (node := z00) (n := 0) sk rb ⟨by decide, fun k hk => absurd hk (Nat.not_lt_zero _)⟩) ?_)
      rintro v g2 ⟨rfl, fr, rb2, rr⟩
      refine V_ret (v := none) rfl rfl dX6_init_55 trivial rfl ⟨rfl, by rw [fr.2.2.1]; exact hC.1, ⟨sk.fr fr.1 fr.2.1, rb2⟩, fun node => rr.nodes (fun k hk => absurd hk (by omega)), hC.2.2.2.trans (fr.sm (by omega))⟩
    | succ w ih =>
      intro i hi g hC hb
      obtain ⟨o1, o2, o3, o4, o5⟩ := hC.2.2.1
      have p5 : jP g a 5 = a + 1 := by rw [o3]; rfl
      have s1 : jS g (a + 1) = (18, 6) := (o4 (a + 1, 18, 6) (by simp)).2.1
      refine V_iload_n (i := 1) dX6_init_23 rfl rfl ?_
      refine V_aload_n (i := 0) dX6_init_24 rfl rfl ?_
      refine V_getP dX6_init_25 fX6_11 rfl o1 ?_
      rw [p5]
      refine V_alen (t := 2) dX6_init_28 (by rw [s1]) (by decide) ?_
      rw [s1]
      refine V_icmp_ge (tgt := 51) dX6_init_29 (by decide) (fun c1 => ?_) (fun c1 => ?_)
      · have c2 : ((6 : Nat) : Int) ≤ (i : Int) := c1
        omega
      refine V_aload_n (i := 0) dX6_init_32 rfl rfl ?_
      refine V_getP dX6_init_33 fX6_11 rfl o1 ?_
      rw [p5]
      refine V_iload_n (i := 1) dX6_init_36 rfl rfl ?_
      refine V_cost (mc' := (5 + 6 * w) + 1) (ms' := (40 + 44 * w) + 4) (by omega) (by omega) ?_
      refine V_new (ci := 0) (n := 4) dX6_init_37 rfl (by decide) clX6_9 in0 ini0 ?_
      refine V_dup dX6_init_40 ?_
      have hN := hC.1
      rw [hN]
      have hI := CT.new (kd := 0) (n := 4) hN
      refine V_callInest (M := MX6_init) (d := (d + 3)) (As := []) (rest := [.inr (a + 3 + 6 * i), .inl (i : Int), .inr (a + 1)]) dX6_init_41 tX0_init iX0_init lX6_21 rfl hI.2.2.1.1 (by decide) rfl rfl (Nat.le_of_ble_eq_true rfl) (show d + 1 + 1 ≤ (d + 3) by omega) (Ex.mono (eX0_init (by omega) hI) ?_)
      rintro v g2 ⟨rfl, hN2, hB2, sm2⟩
      have hC2 := hC.in_ sm2 hN2 (by omega)
      have s12 : jS g2 (a + 1) = (18, 6) := (hC2.2.2.1.2.2.2.1 (a + 1, 18, 6) (by simp)).2.1
      refine V_aast18 dX6_init_44 (by rw [s12]) (by omega) (by rw [s12]; show (i : Int) < 6; omega) hB2.1 ?_
      refine V_iinc (i := 1) dX6_init_45 rfl (by decide) ⟨by omega, by omega⟩ ?_
      refine V_goto (tgt := 23) dX6_init_48 (by decide) ?_
      rw [Int.toNat_natCast]
      have hC3 := hC2.sY (b := a + 1) (k := i) (v := a + 3 + 6 * i) (by omega)
      refine ih (i + 1) (by omega) _ ?_ (fun j hj => ?_)
      · rw [show a + 3 + 6 * (i + 1) = a + 3 + 6 * i + 6 by omega]; exact hC3
      · rw [jY_sY]
        by_cases z : j = i
        · subst z
          exact ⟨hB2, if_pos ⟨rfl, rfl⟩⟩
        · have hj' := hb j (by omega)
          refine ⟨(hj'.1.sm (sm2.sub (by omega) (by omega))).sm (SM.sY (by omega)), ?_⟩
          rw [if_neg (fun y => z y.2), (sm2 (a + 1) (by omega) (by omega)).2.2.2.1]
          exact hj'.2
  exact loop 6 0 rfl g hC (fun j hj => absurd hj (Nat.not_lt_zero _))
theorem eX4_init (hC : CT 89 4 90 [] [] [] h0 h) : Ex MX4_init (d + 4) [.inr 89] h 235 1740 (fun v g => v = none ∧ CT 89 4 325 [(1, 90)] [(90, 19, 6)] [] h0 g ∧ ∀ j, j < 6 → RC g (91 + 39 * j) ∧ jY g 90 j = 91 + 39 * j) := by
  refine Ex_of_V tX4_init (Nat.le_of_ble_eq_true rfl) ?_
  refine V_aload_n (i := 0) dX4_init_0 rfl rfl ?_
  refine V_objI dX4_init_1 lX4_3 jobI jobC (by decide) (Nat.le_of_ble_eq_true rfl) ?_
  refine V_aload_n (i := 0) dX4_init_4 rfl rfl ?_
  refine V_bipush dX4_init_5 (by decide +kernel) ⟨by decide, by decide⟩ ?_
  refine V_cost (mc' := 234 + 1) (ms' := 1734 + Int.toNat 6) rfl rfl ?_
  refine V_newq19 dX4_init_7 clX4_9 (by decide) (by decide) ?_
  refine V_putF (ci := 4) (kf := 1) dX4_init_10 gX4_11 rfl rfl rfl rfl hC.sh ?_
  refine V_arr hC ?_
  clear hC
  intro g hC
  refine V_iconst dX4_init_13 ⟨by decide, by decide⟩ ?_
  refine V_istore_n (i := 1) dX4_init_14 rfl (by decide) ?_
  have loop : ∀ w i : Nat, i + w = 6 → ∀ g, CT 89 4 (91 + 39 * i) [(1, 90)] [(90, 19, 6)] [] h0 g → (∀ j, j < i → RC g (91 + 39 * j) ∧ jY g 90 j = 91 + 39 * j) → V MX4_init (d + 4) 15 [some (.inr 89), some (.inl (i : Int))] [] g (39 * w) (289 * w) (fun v g => v = none ∧ CT 89 4 325 [(1, 90)] [(90, 19, 6)] [] h0 g ∧ ∀ j, j < 6 → RC g (91 + 39 * j) ∧ jY g 90 j = 91 + 39 * j) := by
    intro w
    induction w with
    | zero =>
      intro i hi g hC hb
      obtain rfl : i = 6 := by omega
      obtain ⟨o1, o2, o3, o4, o5⟩ := hC.2.2.1
      have p5 : jP g 89 1 = 90 := by rw [o3]; rfl
      have s1 : jS g 90 = (19, 6) := (o4 (90, 19, 6) (by simp)).2.1
      refine V_iload_n (i := 1) dX4_init_15 rfl rfl ?_
      refine V_aload_n (i := 0) dX4_init_16 rfl rfl ?_
      refine V_getP dX4_init_17 fX4_11 rfl o1 ?_
      rw [p5]
      refine V_alen (t := 3) dX4_init_20 (by rw [s1]) (by decide) ?_
      rw [s1]
      refine V_icmp_ge (tgt := 43) dX4_init_21 (by decide) (fun c1 => ?_) (fun c1 => absurd (by decide) c1)
      exact V_ret (v := none) rfl rfl dX4_init_43 trivial rfl ⟨rfl, hC, hb⟩
    | succ w ih =>
      intro i hi g hC hb
      obtain ⟨o1, o2, o3, o4, o5⟩ := hC.2.2.1
      have p5 : jP g 89 1 = 90 := by rw [o3]; rfl
      have s1 : jS g 90 = (19, 6) := (o4 (90, 19, 6) (by simp)).2.1
      refine V_iload_n (i := 1) dX4_init_15 rfl rfl ?_
      refine V_aload_n (i := 0) dX4_init_16 rfl rfl ?_
      refine V_getP dX4_init_17 fX4_11 rfl o1 ?_
      rw [p5]
      refine V_alen (t := 3) dX4_init_20 (by rw [s1]) (by decide) ?_
      rw [s1]
      refine V_icmp_ge (tgt := 43) dX4_init_21 (by decide) (fun c1 => ?_) (fun c1 => ?_)
      · have c2 : ((6 : Nat) : Int) ≤ (i : Int) := c1
        omega
      refine V_aload_n (i := 0) dX4_init_24 rfl rfl ?_
      refine V_getP dX4_init_25 fX4_11 rfl o1 ?_
      rw [p5]
      refine V_iload_n (i := 1) dX4_init_28 rfl rfl ?_
      refine V_cost (mc' := (38 + 39 * w) + 1) (ms' := (282 + 289 * w) + 7) (by omega) (by omega) ?_
      refine V_new (ci := 6) (n := 7) dX4_init_29 rfl (by decide) clX4_9 in6 ini6 ?_
      refine V_dup dX4_init_32 ?_
      have hN := hC.1
      rw [hN]
      have hI := CT.new (kd := 6) (n := 7) hN
      refine V_callI (M := MX4_init) (d := (d + 4)) (As := []) (rest := [.inr (91 + 39 * i), .inl (i : Int), .inr 90]) dX4_init_33 tX6_init iX6_init lX4_17 rfl hI.2.2.1.1 (by decide) rfl rfl (Nat.le_of_ble_eq_true rfl) (show d + 3 + 1 ≤ (d + 4) by omega) (Ex.mono (eX6_init (by omega) hI) ?_)
      rintro v g2 ⟨rfl, hN2, hB2, -, sm2⟩
      have hC2 := hC.in_ sm2 hN2 (by omega)
      have s12 : jS g2 90 = (19, 6) := (hC2.2.2.1.2.2.2.1 (90, 19, 6) (by simp)).2.1
      refine V_aast19 dX4_init_36 (by rw [s12]) (by omega) (by rw [s12]; show (i : Int) < 6; omega) hB2.1.1 ?_
      refine V_iinc (i := 1) dX4_init_37 rfl (by decide) ⟨by omega, by omega⟩ ?_
      refine V_goto (tgt := 15) dX4_init_40 (by decide) ?_
      rw [Int.toNat_natCast]
      have hC3 := hC2.sY (b := 90) (k := i) (v := 91 + 39 * i) (by omega)
      refine ih (i + 1) (by omega) _ ?_ (fun j hj => ?_)
      · rw [show 91 + 39 * (i + 1) = 91 + 39 * i + 39 by omega]; exact hC3
      · rw [jY_sY]
        by_cases z : j = i
        · subst z
          exact ⟨hB2.sm (SM.sY (by omega)), if_pos ⟨rfl, rfl⟩⟩
        · have hj' := hb j (by omega)
          refine ⟨(hj'.1.sm (sm2.sub (by omega) (by omega))).sm (SM.sY (by omega)), ?_⟩
          rw [if_neg (fun y => z y.2), (sm2 90 (by omega) (by omega)).2.2.2.1]
          exact hj'.2
  exact loop 6 0 rfl g hC (fun j hj => absurd hj (Nat.not_lt_zero _))
end NL
