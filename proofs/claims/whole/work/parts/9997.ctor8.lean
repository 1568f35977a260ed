/-! ===== the class's constructor ===== -/
section NM
variable {h g h0 : jH} {a c m d n r : Nat} {l : List (Nat × Nat)} {T U : List (Nat × Nat × Nat)}
def ld (a : Nat) : List (Nat × Nat) := [(12, a + 21), (11, a + 20), (10, a + 7), (9, a + 6), (8, a + 5), (7, a + 4), (6, a + 3), (5, a + 2), (4, a + 1)]
def td (a : Nat) : List (Nat × Nat × Nat) := [(a + 21, 16, 6), (a + 20, 16, 12), (a + 6, 16, 6), (a + 5, 16, 6), (a + 4, 16, 12), (a + 3, 16, 12), (a + 2, 16, 12), (a + 1, 16, 12)]
def l8 : List (Nat × Nat) := [(13, 397), (12, 393), (11, 329), (9, 328), (8, 327), (7, 326), (6, 325), (5, 89), (4, 50), (3, 49), (2, 27), (1, 5), (0, 3)]
def t8 : List (Nat × Nat × Nat) := [(397, 16, 12), (328, 16, 6), (327, 16, 6), (326, 17, 2), (325, 19, 2)]
theorem V_arr2 {M : jM} {pc mc ms kf kd : Nat} {L : List (Option jA)} {st : List jA} {Q : Option jA → jH → Prop} (hC : CT a c m l T U h0 g) (k : ∀ g', CT a c (m + 1) ((kf, m) :: l) ((m, kd, n) :: T) U h0 g' → SM (a + 1) m g g' → V M d pc L st g' mc ms Q) : V M d pc L st (jsP (jnew g kd n) a kf (jN g)) mc ms Q :=
  k _ hC.arr ((SM.nw (Nat.le_of_eq hC.1.symm)).trans (SM.sP (by omega)))
def S8 (g : jH) : Prop :=
  OB 2 8 476 l8 t8 [] g ∧ OB 3 7 5 [(0, 4)] [(4, 16, 160)] [] g ∧ OB 5 2 27 (ld 5) (td 5) [(12, 12, 17)] g ∧ OB 27 2 49 (ld 27) (td 27) [(34, 12, 17)] g ∧ ((jS g 49).1 = 5 ∧ jP g 49 0 = 3) ∧ (RC g 50 ∧ ∀ node, RecRep g 50 s00 node 0) ∧
  (OB 89 4 325 [(1, 90)] [(90, 19, 6)] [] g ∧ ∀ j, j < 6 → RC g (91 + 39 * j) ∧ jY g 90 j = 91 + 39 * j) ∧ OB 329 3 393 [(3, 331), (2, 330)] [(330, 16, 61)] [(331, 61, 12)] g ∧ OB 393 1 397 [(3, 396), (2, 395), (1, 394)] [(396, 16, 48), (395, 16, 48), (394, 16, 48)] [] g ∧ ∀ j, j < 2 → RC g (398 + 39 * j) ∧ jY g 325 j = 398 + 39 * j
theorem S8.sm (hS : S8 h) (f : SM 0 476 h g) : S8 g := by
  obtain ⟨s1, s2, s3, s4, ⟨s5, s5'⟩, ⟨s6, s6'⟩, ⟨s7, s7'⟩, s8, s9, s10⟩ := hS
  have f49 := f 49 (by omega) (by omega)
  refine ⟨s1.sm (by omega) (f.sub (by omega) (by omega)), s2.sm (by omega) (f.sub (by omega) (by omega)), s3.sm (by omega) (f.sub (by omega) (by omega)), s4.sm (by omega) (f.sub (by omega) (by omega)), ⟨by rw [f49.2.2.2.2]; exact s5, by rw [f49.2.1]; exact s5'⟩, ⟨s6.sm (f.sub (by omega) (by omega)), fun node => (s6' node).sm s6.2 (by decide) (f.sub (by omega) (by omega))⟩, ⟨s7.sm (by omega) (f.sub (by omega) (by omega)), fun j hj => ⟨(s7' j hj).1.sm (f.sub (by omega) (by omega)), ?_⟩⟩, s8.sm (by omega) (f.sub (by omega) (by omega)), s9.sm (by omega) (f.sub (by omega) (by omega)), fun j hj => ⟨(s10 j hj).1.sm (f.sub (by omega) (by omega)), ?_⟩⟩
  · rw [(f 90 (by omega) (by omega)).2.2.2.1]; exact (s7' j hj).2
  · rw [(f 325 (by omega) (by omega)).2.2.2.1]; exact (s10 j hj).2
theorem X8_loop {g13 : jH} : ∀ w i : Nat, i + w = 2 → ∀ g, CT 2 8 (398 + 39 * i) l8 t8 [] h0 g → (∀ j, j < i → RC g (398 + 39 * j) ∧ jY g 325 j = 398 + 39 * j) → SM 3 325 g13 g → SM 326 398 g13 g → V MX8_init (d + 5) 143 [some (.inr 2), some (.inl (i : Int))] [] g (39 * w) (289 * w) (fun v g => v = none ∧ CT 2 8 476 l8 t8 [] h0 g ∧ (∀ j, j < 2 → RC g (398 + 39 * j) ∧ jY g 325 j = 398 + 39 * j) ∧ SM 3 325 g13 g ∧ SM 326 398 g13 g) := by
  intro w
  induction w with
  | zero =>
    intro i hi g hC hb sa sb
    obtain rfl : i = 2 := by omega
    obtain ⟨o1, o2, o3, o4, o5⟩ := hC.2.2.1
    have p5 : jP g 2 6 = 325 := by rw [o3]; rfl
    have s1 : jS g 325 = (19, 2) := (o4 (325, 19, 2) (by simp [t8])).2.1
    refine V_iload_n (i := 1) dX8_init_143 rfl rfl ?_
    refine V_aload_n (i := 0) dX8_init_144 rfl rfl ?_
    refine V_getP dX8_init_145 fX8_49 rfl o1 ?_
    rw [p5]
    refine V_alen (t := 3) dX8_init_148 (by rw [s1]) (by decide) ?_
    rw [s1]
    refine V_icmp_ge (tgt := 171) dX8_init_149 (by decide) (fun c1 => ?_) (fun c1 => absurd (by decide) c1)
    exact V_ret (v := none) rfl rfl dX8_init_171 trivial rfl ⟨rfl, hC, hb, sa, sb⟩
  | succ w ih =>
    intro i hi g hC hb sa sb
    obtain ⟨o1, o2, o3, o4, o5⟩ := hC.2.2.1
    have p5 : jP g 2 6 = 325 := by rw [o3]; rfl
    have s1 : jS g 325 = (19, 2) := (o4 (325, 19, 2) (by simp [t8])).2.1
    refine V_iload_n (i := 1) dX8_init_143 rfl rfl ?_
    refine V_aload_n (i := 0) dX8_init_144 rfl rfl ?_
    refine V_getP dX8_init_145 fX8_49 rfl o1 ?_
    rw [p5]
    refine V_alen (t := 3) dX8_init_148 (by rw [s1]) (by decide) ?_
    rw [s1]
    refine V_icmp_ge (tgt := 171) dX8_init_149 (by decide) (fun c1 => ?_) (fun c1 => ?_)
    · have c2 : ((2 : Nat) : Int) ≤ (i : Int) := c1
      omega
    refine V_aload_n (i := 0) dX8_init_152 rfl rfl ?_
    refine V_getP dX8_init_153 fX8_49 rfl o1 ?_
    rw [p5]
    refine V_iload_n (i := 1) dX8_init_156 rfl rfl ?_
    refine V_cost (mc' := (38 + 39 * w) + 1) (ms' := (282 + 289 * w) + 7) (by omega) (by omega) ?_
    refine V_new (ci := 6) (n := 7) dX8_init_157 rfl (by decide) clX8_35 in6 ini6 ?_
    refine V_dup dX8_init_160 ?_
    have hN := hC.1
    rw [hN]
    have hI := CT.new (kd := 6) (n := 7) hN
    refine V_callI (M := MX8_init) (d := (d + 5)) (As := []) (rest := [.inr (398 + 39 * i), .inl (i : Int), .inr 325]) dX8_init_161 tX6_init iX6_init lX8_37 rfl hI.2.2.1.1 (by decide) rfl rfl (Nat.le_of_ble_eq_true rfl) (show (d + 3) + 1 ≤ (d + 5) by omega) (Ex.mono (eX6_init (by omega) hI) ?_)
    rintro v g2 ⟨rfl, hN2, hB2, -, sm2⟩
    have hC2 := hC.in_ sm2 hN2 (by omega)
    have s12 : jS g2 325 = (19, 2) := (hC2.2.2.1.2.2.2.1 (325, 19, 2) (by simp [t8])).2.1
    refine V_aast19 dX8_init_164 (by rw [s12]) (by omega) (by rw [s12]; show (i : Int) < 2; omega) hB2.1.1 ?_
    refine V_iinc (i := 1) dX8_init_165 rfl (by decide) ⟨by omega, by omega⟩ ?_
    refine V_goto (tgt := 143) dX8_init_168 (by decide) ?_
    rw [Int.toNat_natCast]
    have hC3 := hC2.sY (b := 325) (k := i) (v := 398 + 39 * i) (by omega)
    refine ih (i + 1) (by omega) _ ?_ (fun j hj => ?_) ((sa.trans (sm2.sub (by omega) (by omega))).trans (SM.sY (by omega))) ((sb.trans (sm2.sub (by omega) (by omega))).trans (SM.sY (by omega)))
    · rw [show 398 + 39 * (i + 1) = 398 + 39 * i + 39 by omega]; exact hC3
    · rw [jY_sY]
      by_cases z : j = i
      · subst z
        exact ⟨hB2.sm (SM.sY (by omega)), if_pos ⟨rfl, rfl⟩⟩
      · have hj' := hb j (by omega)
        refine ⟨(hj'.1.sm (sm2.sub (by omega) (by omega))).sm (SM.sY (by omega)), ?_⟩
        rw [if_neg (fun y => z y.2), (sm2 325 (by omega) (by omega)).2.2.2.1]
        exact hj'.2
theorem eX8_init (hC : CT 2 8 3 [] [] [] h0 h) : Ex MX8_init (d + 5) [.inr 2] h 473 4427 (fun v g => v = none ∧ jN g = 476 ∧ S8 g) := by
  refine Ex_of_V tX8_init (Nat.le_of_ble_eq_true rfl) ?_
  refine V_aload_n (i := 0) dX8_init_0 rfl rfl ?_
  refine V_objI dX8_init_1 lX8_3 jobI jobC (by decide) (Nat.le_of_ble_eq_true rfl) ?_
  -- 3
  refine V_aload_n (i := 0) dX8_init_4 rfl rfl ?_
  refine V_cost (mc' := 472 + 1) (ms' := 4422 + 5) rfl rfl ?_
  refine V_new (ci := 7) (n := 5) dX8_init_5 rfl (by decide) clX8_9 in7 ini7 ?_
  refine V_dup dX8_init_8 ?_
  rw [hC.1]
  have I1 := CT.new (kd := 7) (n := 5) hC.1
  refine V_cost (mc' := 1 + 471) (ms' := 160 + 4262) rfl rfl ?_
  refine V_callInest (M := MX8_init) (d := (d + 5)) (As := []) (rest := [.inr 3, .inr 2]) dX8_init_9 tX7_init iX7_init lX8_11 rfl I1.2.2.1.1 (by decide) rfl rfl (Nat.le_of_ble_eq_true rfl) (show d + 1 ≤ (d + 5) by omega) (Ex.mono (eX7_init (by decide) I1) ?_)
  rintro v q1 ⟨rfl, i11, i12, i13, i14⟩
  refine V_putF (ci := 8) (kf := 0) dX8_init_12 gX8_12 rfl rfl rfl rfl (hC.2.2.1.sm hC.2.1 (i14.sub (by omega) (by omega))).1 ?_
  have f1 : OB 3 7 5 [(0, 4)] [(4, 16, 160)] [] (jsP q1 2 0 3) := i13.sm i12 (SM.sP (a := 2) (kf := 0) (v := 3) (by omega))
  have s1 : SM 3 3 h (jsP q1 2 0 3) := (i14.sub (by omega) (by omega)).trans (SM.sP (by omega))
  have C1 := hC.obj (m' := 5) (kf := 0) i14 i11 (by omega)
  generalize jsP q1 2 0 3 = g1 at C1 s1 f1 ⊢
  -- 5
  refine V_aload_n (i := 0) dX8_init_15 rfl rfl ?_
  refine V_cost (mc' := 470 + 1) (ms' := 4249 + 13) rfl rfl ?_
  refine V_new (ci := 2) (n := 13) dX8_init_16 rfl (by decide) clX8_16 in2 ini2 ?_
  refine V_dup dX8_init_19 ?_
  rw [C1.1]
  have I2 := CT.new (kd := 2) (n := 13) C1.1
  refine V_cost (mc' := 21 + 449) (ms' := 294 + 3955) rfl rfl ?_
  refine V_callInest (M := MX8_init) (d := (d + 5)) (As := []) (rest := [.inr 5, .inr 2]) dX8_init_20 tX2_init iX2_init lX8_18 rfl I2.2.2.1.1 (by decide) rfl rfl (Nat.le_of_ble_eq_true rfl) (show d + 1 ≤ (d + 5) by omega) (Ex.mono (eX2_init (by decide) I2) ?_)
  rintro v q2 ⟨rfl, i21, i22, i23, i24⟩
  refine V_putP (ci := 8) (kf := 1) dX8_init_23 fX8_19 rfl rfl (C1.2.2.1.sm C1.2.1 (i24.sub (by omega) (by omega))).1 ?_
  have f2 : OB 5 2 27 (ld 5) (td 5) [(12, 12, 17)] (jsP q2 2 1 5) := i23.sm i22 (SM.sP (a := 2) (kf := 1) (v := 5) (by omega))
  have s2 : SM 3 5 g1 (jsP q2 2 1 5) := (i24.sub (by omega) (by omega)).trans (SM.sP (by omega))
  have C2 := C1.obj (m' := 27) (kf := 1) i24 i21 (by omega)
  generalize jsP q2 2 1 5 = g2 at C2 s2 f2 ⊢
  -- 27
  refine V_aload_n (i := 0) dX8_init_26 rfl rfl ?_
  refine V_cost (mc' := 448 + 1) (ms' := 3942 + 13) rfl rfl ?_
  refine V_new (ci := 2) (n := 13) dX8_init_27 rfl (by decide) clX8_16 in2 ini2 ?_
  refine V_dup dX8_init_30 ?_
  rw [C2.1]
  have I3 := CT.new (kd := 2) (n := 13) C2.1
  refine V_cost (mc' := 21 + 427) (ms' := 294 + 3648) rfl rfl ?_
  refine V_callInest (M := MX8_init) (d := (d + 5)) (As := []) (rest := [.inr 27, .inr 2]) dX8_init_31 tX2_init iX2_init lX8_18 rfl I3.2.2.1.1 (by decide) rfl rfl (Nat.le_of_ble_eq_true rfl) (show d + 1 ≤ (d + 5) by omega) (Ex.mono (eX2_init (by decide) I3) ?_)
  rintro v q3 ⟨rfl, i31, i32, i33, i34⟩
  refine V_putP (ci := 8) (kf := 2) dX8_init_34 fX8_23 rfl rfl (C2.2.2.1.sm C2.2.1 (i34.sub (by omega) (by omega))).1 ?_
  have f3 : OB 27 2 49 (ld 27) (td 27) [(34, 12, 17)] (jsP q3 2 2 27) := i33.sm i32 (SM.sP (a := 2) (kf := 2) (v := 27) (by omega))
  have s3 : SM 3 27 g2 (jsP q3 2 2 27) := (i34.sub (by omega) (by omega)).trans (SM.sP (by omega))
  have C3 := C2.obj (m' := 49) (kf := 2) i34 i31 (by omega)
  generalize jsP q3 2 2 27 = g3 at C3 s3 f3 ⊢
  -- 49
  refine V_aload_n (i := 0) dX8_init_37 rfl rfl ?_
  refine V_cost (mc' := 426 + 1) (ms' := 3643 + 5) rfl rfl ?_
  refine V_new (ci := 5) (n := 5) dX8_init_38 rfl (by decide) clX8_26 in5 ini5 ?_
  refine V_dup dX8_init_41 ?_
  have e0 : jP (jnew g3 5 5) 2 0 = 3 := by show (if 2 = jN g3 then 0 else jP g3 2 0) = 3; rw [if_neg (by rw [C3.1]; decide), C3.2.2.1.2.2.1]; rfl
  have e2 : jP (jnew g3 5 5) 2 2 = 27 := by show (if 2 = jN g3 then 0 else jP g3 2 2) = 27; rw [if_neg (by rw [C3.1]; decide), C3.2.2.1.2.2.1]; rfl
  refine V_aload_n (i := 0) dX8_init_42 rfl rfl ?_
  refine V_getP dX8_init_43 fX8_12 rfl C3.sh ?_
  refine V_aload_n (i := 0) dX8_init_46 rfl rfl ?_
  refine V_getP dX8_init_47 fX8_23 rfl C3.sh ?_
  rw [e0, e2]
  rw [C3.1]
  have I4 := CT.new (kd := 5) (n := 5) C3.1
  refine V_cost (mc' := 0 + 426) (ms' := 0 + 3643) rfl rfl ?_
  refine V_callI (M := MX8_init) (d := (d + 5)) (As := [.inr 3, .inr 27]) (rest := [.inr 49, .inr 2]) dX8_init_50 tX5_init iX5_init lX8_28 rfl I4.2.2.1.1 (by decide) rfl rfl (Nat.le_of_ble_eq_true rfl) (show d + 1 ≤ (d + 5) by omega) (Ex.mono (eX5_init (by decide) I4.2.2.1.1) ?_)
  rintro v q4 ⟨rfl, e4⟩
  have i41 : jN q4 = 50 := by rw [e4]; show jN g3 + 1 = 50; rw [C3.1]
  have i44 : SM 0 49 g3 q4 := by rw [e4]; exact ((SM.nw (Nat.le_of_eq C3.1.symm)).trans (SM.sP (by omega))).trans (SM.sP (by omega))
  have i43 : (jS q4 49).1 = 5 ∧ jP q4 49 0 = 3 := by rw [e4]; exact ⟨I4.2.2.1.1, by rw [jP_sP, if_neg (by omega), jP_sP, if_pos ⟨rfl, rfl⟩]⟩
  clear e4
  refine V_putF (ci := 8) (kf := 3) dX8_init_53 gX8_31 rfl rfl rfl rfl (C3.2.2.1.sm C3.2.1 (i44.sub (by omega) (by omega))).1 ?_
  have f4 : (jS (jsP q4 2 3 49) 49).1 = 5 ∧ jP (jsP q4 2 3 49) 49 0 = 3 := ⟨i43.1, by rw [jP_sP, if_neg (by omega)]; exact i43.2⟩
  have s4 : SM 3 49 g3 (jsP q4 2 3 49) := (i44.sub (by omega) (by omega)).trans (SM.sP (by omega))
  have C4 := C3.obj (m' := 50) (kf := 3) i44 i41 (by omega)
  generalize jsP q4 2 3 49 = g4 at C4 s4 f4 ⊢
  -- 50
  refine V_aload_n (i := 0) dX8_init_56 rfl rfl ?_
  refine V_cost (mc' := 425 + 1) (ms' := 3636 + 7) rfl rfl ?_
  refine V_new (ci := 6) (n := 7) dX8_init_57 rfl (by decide) clX8_35 in6 ini6 ?_
  refine V_dup dX8_init_60 ?_
  rw [C4.1]
  have I5 := CT.new (kd := 6) (n := 7) C4.1
  refine V_cost (mc' := 38 + 387) (ms' := 282 + 3354) rfl rfl ?_
  refine V_callI (M := MX8_init) (d := (d + 5)) (As := []) (rest := [.inr 50, .inr 2]) dX8_init_61 tX6_init iX6_init lX8_37 rfl I5.2.2.1.1 (by decide) rfl rfl (Nat.le_of_ble_eq_true rfl) (show (d + 3) + 1 ≤ (d + 5) by omega) (Ex.mono (eX6_init (by decide) I5) ?_)
  rintro v q5 ⟨rfl, i51, i53, i55, i54⟩
  refine V_putF (ci := 8) (kf := 4) dX8_init_64 gX8_38 rfl rfl rfl rfl (C4.2.2.1.sm C4.2.1 (i54.sub (by omega) (by omega))).1 ?_
  have f5 : RC (jsP q5 2 4 50) 50 := i53.sm (SM.sP (a := 2) (kf := 4) (v := 50) (by omega))
  have f5b : ∀ node, RecRep (jsP q5 2 4 50) 50 s00 node 0 := fun node => (i55 node).sm i53.2 (by decide) (SM.sP (a := 2) (kf := 4) (v := 50) (by omega))
  have s5 : SM 3 50 g4 (jsP q5 2 4 50) := (i54.sub (by omega) (by omega)).trans (SM.sP (by omega))
  have C5 := C4.obj (m' := 89) (kf := 4) i54 i51 (by omega)
  generalize jsP q5 2 4 50 = g5 at C5 s5 f5 f5b ⊢
  -- 89
  refine V_aload_n (i := 0) dX8_init_67 rfl rfl ?_
  refine V_cost (mc' := 386 + 1) (ms' := 3352 + 2) rfl rfl ?_
  refine V_new (ci := 4) (n := 2) dX8_init_68 rfl (by decide) clX8_42 in4 ini4 ?_
  refine V_dup dX8_init_71 ?_
  rw [C5.1]
  have I6 := CT.new (kd := 4) (n := 2) C5.1
  refine V_cost (mc' := 235 + 151) (ms' := 1740 + 1612) rfl rfl ?_
  refine V_callI (M := MX8_init) (d := (d + 5)) (As := []) (rest := [.inr 89, .inr 2]) dX8_init_72 tX4_init iX4_init lX8_44 rfl I6.2.2.1.1 (by decide) rfl rfl (Nat.le_of_ble_eq_true rfl) (show (d + 4) + 1 ≤ (d + 5) by omega) (Ex.mono (eX4_init I6) ?_)
  rintro v q6 ⟨rfl, ⟨i61, i62, i63, i64⟩, i65⟩
  refine V_putF (ci := 8) (kf := 5) dX8_init_75 gX8_45 rfl rfl rfl rfl (C5.2.2.1.sm C5.2.1 (i64.sub (by omega) (by omega))).1 ?_
  have f6 : OB 89 4 325 [(1, 90)] [(90, 19, 6)] [] (jsP q6 2 5 89) := i63.sm i62 (SM.sP (a := 2) (kf := 5) (v := 89) (by omega))
  have f6b : ∀ j, j < 6 → RC (jsP q6 2 5 89) (91 + 39 * j) ∧ jY (jsP q6 2 5 89) 90 j = 91 + 39 * j := fun j hj => ⟨(i65 j hj).1.sm (SM.sP (by omega)), (i65 j hj).2⟩
  have s6 : SM 3 89 g5 (jsP q6 2 5 89) := (i64.sub (by omega) (by omega)).trans (SM.sP (by omega))
  have C6 := C5.obj (m' := 325) (kf := 5) i64 i61 (by omega)
  generalize jsP q6 2 5 89 = g6 at C6 s6 f6 f6b ⊢
  -- 325
  refine V_aload_n (i := 0) dX8_init_78 rfl rfl ?_
  refine V_iconst dX8_init_79 ⟨by decide, by decide⟩ ?_
  refine V_cost (mc' := 150 + 1) (ms' := 1610 + Int.toNat 2) rfl rfl ?_
  refine V_newq19 dX8_init_80 clX8_35 (by decide) (by decide) ?_
  refine V_putF (ci := 8) (kf := 6) dX8_init_83 gX8_49 rfl rfl rfl rfl C6.sh ?_
  refine V_arr2 C6 ?_
  intro g7 C7 s7
  -- 326
  refine V_aload_n (i := 0) dX8_init_86 rfl rfl ?_
  refine V_iconst dX8_init_87 ⟨by decide, by decide⟩ ?_
  refine V_cost (mc' := 149 + 1) (ms' := 1608 + Int.toNat 2) rfl rfl ?_
  refine V_newz dX8_init_88 jacZ (by decide) (by decide) ?_
  refine V_putF (ci := 8) (kf := 7) dX8_init_90 gX8_53 rfl rfl rfl rfl C7.sh ?_
  refine V_arr2 C7 ?_
  intro g8 C8 s8
  -- 327
  refine V_aload_n (i := 0) dX8_init_93 rfl rfl ?_
  refine V_bipush dX8_init_94 (by decide +kernel) ⟨by decide, by decide⟩ ?_
  refine V_cost (mc' := 148 + 1) (ms' := 1602 + Int.toNat 6) rfl rfl ?_
  refine V_newi dX8_init_96 jacI (by decide) (by decide) ?_
  refine V_putF (ci := 8) (kf := 8) dX8_init_98 gX8_57 rfl rfl rfl rfl C8.sh ?_
  refine V_arr2 C8 ?_
  intro g9 C9 s9
  -- 328
  refine V_aload_n (i := 0) dX8_init_101 rfl rfl ?_
  refine V_bipush dX8_init_102 (by decide +kernel) ⟨by decide, by decide⟩ ?_
  refine V_cost (mc' := 147 + 1) (ms' := 1596 + Int.toNat 6) rfl rfl ?_
  refine V_newi dX8_init_104 jacI (by decide) (by decide) ?_
  refine V_putF (ci := 8) (kf := 9) dX8_init_106 gX8_61 rfl rfl rfl rfl C9.sh ?_
  refine V_arr2 C9 ?_
  intro g10 C10 s10
  -- 329
  refine V_aload_n (i := 0) dX8_init_109 rfl rfl ?_
  refine V_cost (mc' := 146 + 1) (ms' := 1592 + 4) rfl rfl ?_
  refine V_new (ci := 3) (n := 4) dX8_init_110 rfl (by decide) clX8_64 in3 ini3 ?_
  refine V_dup dX8_init_113 ?_
  rw [C10.1]
  have I11 := CT.new (kd := 3) (n := 4) C10.1
  refine V_cost (mc' := 63 + 83) (ms' := 854 + 738) rfl rfl ?_
  refine V_callInest (M := MX8_init) (d := (d + 5)) (As := []) (rest := [.inr 329, .inr 2]) dX8_init_114 tX3_init iX3_init lX8_66 rfl I11.2.2.1.1 (by decide) rfl rfl (Nat.le_of_ble_eq_true rfl) (show d + 1 ≤ (d + 5) by omega) (Ex.mono (eX3_init (by decide) I11) ?_)
  rintro v q11 ⟨rfl, i111, i112, i113, i114⟩
  refine V_putF (ci := 8) (kf := 11) dX8_init_117 gX8_67 rfl rfl rfl rfl (C10.2.2.1.sm C10.2.1 (i114.sub (by omega) (by omega))).1 ?_
  have f11 : OB 329 3 393 [(3, 331), (2, 330)] [(330, 16, 61)] [(331, 61, 12)] (jsP q11 2 11 329) := i113.sm i112 (SM.sP (a := 2) (kf := 11) (v := 329) (by omega))
  have s11 : SM 3 329 g10 (jsP q11 2 11 329) := (i114.sub (by omega) (by omega)).trans (SM.sP (by omega))
  have C11 := C10.obj (m' := 393) (kf := 11) i114 i111 (by omega)
  generalize jsP q11 2 11 329 = g11 at C11 s11 f11 ⊢
  -- 393
  refine V_aload_n (i := 0) dX8_init_120 rfl rfl ?_
  refine V_cost (mc' := 82 + 1) (ms' := 734 + 4) rfl rfl ?_
  refine V_new (ci := 1) (n := 4) dX8_init_121 rfl (by decide) clX8_71 in1 ini1 ?_
  refine V_dup dX8_init_124 ?_
  refine V_bipush dX8_init_125 (by decide +kernel) ⟨by decide, by decide⟩ ?_
  rw [C11.1]
  have I12 := CT.new (kd := 1) (n := 4) C11.1
  refine V_cost (mc' := 3 + 79) (ms' := 144 + 590) rfl rfl ?_
  refine V_callI (M := MX8_init) (d := (d + 5)) (As := [.inl ((48 : Nat) : Int)]) (rest := [.inr 393, .inr 2]) dX8_init_127 tX1_init iX1_init lX8_73 rfl I12.2.2.1.1 (by decide) rfl rfl (Nat.le_of_ble_eq_true rfl) (show d + 1 ≤ (d + 5) by omega) (Ex.mono (eX1_init (by decide) (by decide) I12) ?_)
  rintro v q12 ⟨rfl, i121, i122, i123, i124⟩
  refine V_putF (ci := 8) (kf := 12) dX8_init_130 gX8_76 rfl rfl rfl rfl (C11.2.2.1.sm C11.2.1 (i124.sub (by omega) (by omega))).1 ?_
  have f12 : OB 393 1 397 [(3, 396), (2, 395), (1, 394)] [(396, 16, 48), (395, 16, 48), (394, 16, 48)] [] (jsP q12 2 12 393) := i123.sm i122 (SM.sP (a := 2) (kf := 12) (v := 393) (by omega))
  have s12 : SM 3 393 g11 (jsP q12 2 12 393) := (i124.sub (by omega) (by omega)).trans (SM.sP (by omega))
  have C12 := C11.obj (m' := 397) (kf := 12) i124 i121 (by omega)
  generalize jsP q12 2 12 393 = g12 at C12 s12 f12 ⊢
  -- 397
  refine V_aload_n (i := 0) dX8_init_133 rfl rfl ?_
  refine V_bipush dX8_init_134 (by decide +kernel) ⟨by decide, by decide⟩ ?_
  refine V_cost (mc' := 78 + 1) (ms' := 578 + Int.toNat 12) rfl rfl ?_
  refine V_newi dX8_init_136 jacI (by decide) (by decide) ?_
  refine V_putF (ci := 8) (kf := 13) dX8_init_138 gX8_80 rfl rfl rfl rfl C12.sh ?_
  refine V_arr2 C12 ?_
  intro g13 C13 s13
  refine V_iconst dX8_init_141 ⟨by decide, by decide⟩ ?_
  refine V_istore_n (i := 1) dX8_init_142 rfl (by decide) ?_
  refine V_mono (X8_loop (g13 := g13) 2 0 rfl g13 C13 (fun j hj => absurd hj (Nat.not_lt_zero _)) SM.rf SM.rf) ?_
  rintro v G ⟨rfl, hG, hi, ta, tb⟩
  have u12 : SM 326 397 g12 G := (s13.sub (by omega) (by omega)).trans (tb.sub (by omega) (by omega))
  have u11 : SM 326 393 g11 G := (s12.sub (by omega) (by omega)).trans (u12.sub (by omega) (by omega))
  have u6 : SM 3 325 g6 G := (s7.sub (by omega) (by omega)).trans ((s8.sub (by omega) (by omega)).trans ((s9.sub (by omega) (by omega)).trans ((s10.sub (by omega) (by omega)).trans ((s11.sub (by omega) (by omega)).trans ((s12.sub (by omega) (by omega)).trans ((s13.sub (by omega) (by omega)).trans ta))))))
  have u5 : SM 3 89 g5 G := (s6.sub (by omega) (by omega)).trans (u6.sub (by omega) (by omega))
  have u4 : SM 3 50 g4 G := (s5.sub (by omega) (by omega)).trans (u5.sub (by omega) (by omega))
  have u3 : SM 3 49 g3 G := (s4.sub (by omega) (by omega)).trans (u4.sub (by omega) (by omega))
  have u2 : SM 3 27 g2 G := (s3.sub (by omega) (by omega)).trans (u3.sub (by omega) (by omega))
  have u1 : SM 3 5 g1 G := (s2.sub (by omega) (by omega)).trans (u2.sub (by omega) (by omega))
  have x49 := u4 49 (by omega) (by omega)
  refine ⟨rfl, hG.1, hG.2.2.1, f1.sm (by omega) (u1.sub (by omega) (by omega)), f2.sm (by omega) (u2.sub (by omega) (by omega)), f3.sm (by omega) (u3.sub (by omega) (by omega)), ⟨by rw [x49.2.2.2.2]; exact f4.1, by rw [x49.2.1]; exact f4.2⟩, ⟨f5.sm (u5.sub (by omega) (by omega)), fun node => (f5b node).sm f5.2 (by decide) (u5.sub (by omega) (by omega))⟩, ⟨f6.sm (by omega) (u6.sub (by omega) (by omega)), fun j hj => ⟨(f6b j hj).1.sm (u6.sub (by omega) (by omega)), ?_⟩⟩, f11.sm (by omega) (u11.sub (by omega) (by omega)), f12.sm (by omega) (u12.sub (by omega) (by omega)), hi⟩
  rw [(u6 90 (by omega) (by omega)).2.2.2.1]
  exact (f6b j hj).2
end NM
