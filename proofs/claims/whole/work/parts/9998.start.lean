/-! ===== the model's constructor; all is in order at the start ===== -/
section NN
variable {h g h0 : jH} {d D m : Nat}
theorem CT9_mk (hC : CT 476 9 504 ml9 mt9 [] h0 g) : MK g := by
  obtain ⟨o1, o2, o3, o4, o5⟩ := hC.2.2.1
  have p : ∀ k, jP g 476 k = tb ml9 k := fun k => by rw [o3]
  have s : ∀ t : Nat × Nat × Nat, t ∈ mt9 → jS g t.1 = t.2 := fun t ht => (o4 t ht).2.1
  exact ⟨o1, (p 0).trans (by decide), (p 4).trans (by decide), (p 5).trans (by decide), (p 7).trans (by decide), (p 8).trans (by decide), (p 9).trans (by decide), (p 10).trans (by decide), (p 12).trans (by decide), (p 13).trans (by decide), (p 14).trans (by decide), (p 21).trans (by decide), (p 25).trans (by decide), (p 26).trans (by decide), (p 28).trans (by decide), (p 29).trans (by decide), (p 32).trans (by decide), (p 36).trans (by decide), (p 37).trans (by decide), (p 38).trans (by decide), (p 39).trans (by decide), (p 40).trans (by decide), (p 41).trans (by decide), (p 42).trans (by decide), (p 43).trans (by decide), (p 44).trans (by decide), (p 46).trans (by decide), (p 48).trans (by decide), s (477, 16, 72) (by decide), s (478, 16, 6) (by decide), s (479, 16, 6) (by decide), s (480, 16, 160) (by decide), s (481, 16, 4) (by decide), s (482, 16, 209) (by decide), s (483, 16, 1254) (by decide), s (484, 16, 418) (by decide), s (485, 17, 2) (by decide), s (486, 16, 160) (by decide), s (487, 16, 72) (by decide), s (488, 16, 6) (by decide), s (489, 16, 6) (by decide), s (490, 16, 160) (by decide), s (491, 16, 4) (by decide), s (492, 16, 16) (by decide), s (493, 16, 12) (by decide), s (494, 16, 8) (by decide), s (495, 16, 6) (by decide), s (496, 17, 1002) (by decide), s (497, 16, 1000) (by decide), s (498, 16, 12) (by decide), s (499, 17, 1000) (by decide), s (500, 16, 48) (by decide), s (501, 16, 48) (by decide), s (502, 16, 8) (by decide), s (503, 16, 12) (by decide)⟩
theorem eX9_init (hC : CT 476 9 477 [] [] [] h0 h) : Ex MX9_init (d + 3) [.inr 476] h 27 5711 (fun v g => v = none ∧ jN g = 504 ∧ SM 0 476 h0 g ∧ MK g ∧ (∀ k, k < 209 → jX g 482 k = s00 k) ∧ (∀ k, jI g 476 k = 0) ∧ jX g 485 0 = 0 ∧ jX g 485 1 = 0) := by
  refine Ex_of_V tX9_init (Nat.le_of_ble_eq_true rfl) ?_
  refine X9_rows (by decide) hC (fun g hC => ?_)
  have hM := CT9_mk hC
  refine V_aload_n (i := 0) dX9_init_226 rfl rfl ?_
  refine V_cost (mc' := 0 + 0) (ms' := 0 + 0) rfl rfl ?_
  refine V_callV (M := MX9_init) (d := (d + 3)) (As := []) (rest := []) dX9_init_227 tX9_begins vX9_begins lX9_92 hM.x ⟨by decide, rfl⟩ rfl rfl (Nat.le_of_ble_eq_true rfl) (show (d + 2) + 1 ≤ (d + 3) by omega) (Ex.mono (eX9_begins hM) ?_)
  rintro v g2 ⟨rfl, fm, e1, e2, e3, e4, e5⟩
  refine V_ret (v := none) rfl rfl dX9_init_230 trivial rfl ⟨rfl, ?_, ?_, fm.mk hM, e1, fun k => ?_, e4, e5⟩
  · rw [fm.2.2.1]; exact hC.1
  · exact hC.2.2.2.trans (fun b _ hb => ⟨fm.2.2.2.2.2.1 b (by omega), by rw [fm.1], fm.2.2.2.2.1 b (by omega), by rw [fm.2.2.2.1], by rw [fm.2.1]⟩)
  · by_cases z : k = 11
    · rw [z]; exact e2
    · by_cases z2 : k = 49
      · rw [z2]; exact e3
      · rw [fm.2.2.2.2.2.2 k (by omega), hC.2.2.1.2.1]
theorem DK_of (hO : OB D 2 m (ld D) (td D) [(D + 7, 12, 17)] g) : DK g D ∧ DY g D := by
  obtain ⟨o1, o2, o3, o4, o5⟩ := hO
  obtain ⟨-, u2, u3⟩ := o5 (D + 7, 12, 17) (by simp)
  have s : ∀ t : Nat × Nat × Nat, t ∈ td D → jS g t.1 = t.2 := fun t ht => (o4 t ht).2.1
  refine ⟨⟨o1, by rw [o3]; rfl, by rw [o3]; rfl, by rw [o3]; rfl, by rw [o3]; rfl, by rw [o3]; rfl, by rw [o3]; rfl, by rw [o3]; rfl, by rw [o3]; rfl, by rw [o3]; rfl, s (D + 1, 16, 12) (by simp [td]), s (D + 2, 16, 12) (by simp [td]), s (D + 3, 16, 12) (by simp [td]), s (D + 4, 16, 12) (by simp [td]), s (D + 5, 16, 6) (by simp [td]), s (D + 6, 16, 6) (by simp [td]), u2, s (D + 20, 16, 12) (by simp [td]), s (D + 21, 16, 6) (by simp [td]), fun i hi => ?_⟩, fun i hi => ?_⟩
  · have := (u3 i hi).2
    rw [show D + 8 + i = D + 7 + 1 + i by omega]
    exact this
  · have := (u3 i hi).1
    rw [show D + 8 + i = D + 7 + 1 + i by omega]
    exact this
theorem IE_0 (hS : S8 g) (hM : MK g) (e1 : ∀ k, k < 209 → jX g 482 k = s00 k) (e2 : ∀ k, jI g 476 k = 0) (e4 : jX g 485 0 = 0) (e5 : jX g 485 1 = 0) : IE g 0 := by
  obtain ⟨a2, a3, a5, a27, ⟨a49, a49'⟩, ⟨a50, a50'⟩, ⟨a89, a89'⟩, a329, a393, aim⟩ := hS
  have k5 := DK_of (D := 5) a5
  have k27 := DK_of (D := 27) a27
  obtain ⟨p1, p2, p3, p4, -⟩ := a2
  obtain ⟨q1, q2, q3, q4, -⟩ := a3
  obtain ⟨w1, w2, w3, w4, -⟩ := a89
  obtain ⟨x1, x2, x3, x4, x5⟩ := a329
  obtain ⟨y1, y2, y3, y4, -⟩ := a393
  obtain ⟨-, v2, v3⟩ := x5 (331, 61, 12) (by simp)
  have i5 := a5.2.1
  have s2 : ∀ t : Nat × Nat × Nat, t ∈ t8 → jS g t.1 = t.2 := fun t ht => (p4 t ht).2.1
  have z326 : jX g 326 = fun _ => 0 := (p4 (326, 17, 2) (by decide)).2.2
  have im0 := aim 0 (by omega)
  have im1 := aim 1 (by omega)
  have hx : IX g := by
    refine ⟨⟨p1, by rw [p3]; decide, by rw [p3]; decide, by rw [p3]; decide, by rw [p3]; decide, by rw [p3]; decide, by rw [p3]; decide, by rw [p3]; decide, by rw [p3]; decide, by rw [p3]; decide, by rw [p3]; decide, by rw [p3]; decide⟩, ⟨q1, by rw [q3]; decide, (q4 (4, 16, 160) (by decide)).2.1, a49, a49', s2 (325, 19, 2) (by decide), s2 (326, 17, 2) (by decide), s2 (327, 16, 6) (by decide), s2 (328, 16, 6) (by decide), s2 (397, 16, 12) (by decide)⟩, ⟨y1, by rw [y3]; decide, by rw [y3]; decide, by rw [y3]; decide, (y4 (394, 16, 48) (by decide)).2.1, (y4 (395, 16, 48) (by decide)).2.1, (y4 (396, 16, 48) (by decide)).2.1⟩, ⟨x1, by rw [x3]; decide, by rw [x3]; decide, (x4 (330, 16, 61) (by decide)).2.1, v2, fun i hi => (v3 i hi).2⟩, fun i hi => (v3 i hi).1, a50.1, im0.1.1, im1.1.1, k5.1, k27.1, k5.2, k27.2, ⟨w1, by rw [w3]; decide, (w4 (90, 19, 6) (by decide)).2.1, fun i hi => ⟨i, hi, (a89' i hi).2⟩, fun i j hi hj z => by rw [(a89' i hi).2, (a89' j hj).2] at z; omega, fun j hj => (a89' j hj).1⟩, a50.2, im0.1.2, im1.1.2, ⟨im0.2, im1.2⟩, hM⟩
  have z0 : ∀ k, ¬ k < (0 : Nat) := fun k => Nat.not_lt_zero k
  have si : SI s00 (jX g 477) 0 0 := SI_0 (Int.le_refl 0)
  have hG : DG (jX g 477) 0 0 0 (jX g 478) (jX g 479) 0 (jX g 480) (jX g 481) := ⟨by decide, by decide, by decide, by decide, fun k hk => absurd hk (z0 k), fun k k' hk => absurd hk (z0 k), fun k hk => absurd hk (z0 k), fun j k hj => absurd hj (z0 j), fun j k hj => absurd hj (z0 j), fun j k hj => absurd hj (z0 j)⟩
  refine ⟨5, jX g 477, 0, 0, 0, jX g 478, jX g 479, 0, jX g 480, jX g 481, jX g 482, jX g 483, 0, hx, ⟨Or.inl ⟨rfl, by rw [p3]; decide, by rw [p3]; decide⟩, ⟨by rw [i5]; rfl, by rw [i5]; rfl, by rw [i5]; rfl, by rw [i5]; rfl, fun k hk => absurd hk (z0 k), fun k hk => absurd hk (z0 k)⟩, ⟨by rw [e2]; rfl, by rw [e2]; rfl, by rw [e2]; rfl, by rw [e2]; rfl, rfl, rfl, rfl, rfl, rfl⟩, hG⟩, ⟨(a50' (jX g 477)).row hG.wn si e1, rfl, si.row e1⟩, ⟨⟨by rw [w2]; rfl, by omega, fun i hi => absurd hi (z0 i)⟩, rfl, by rw [e2]; rfl⟩, ⟨by rw [z326, e4], Or.inl (by rw [z326]), fun z => ?_⟩, ⟨by rw [z326, e5], Or.inl (by rw [z326]), fun z => ?_⟩, ⟨0, by rw [p2]; rfl, by rw [e2]; rfl, by omega, fun i hi => absurd hi (z0 i)⟩, ⟨0, by rw [q2]; rfl, by rw [e2]; rfl, by omega, fun i hi => absurd hi (z0 i)⟩⟩
  · rw [z326] at z; exact absurd z (by decide)
  · rw [z326] at z; exact absurd z (by decide)
end NN
