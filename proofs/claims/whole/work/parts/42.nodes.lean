/-! ===== values of signals: the numbers ===== -/
section KM
/-- a value as the record has them -/
def jv (x : Int) : Prop := x = -7 ∨ (0 ≤ x ∧ x ≤ 255)
theorem bv_b (b : BitVec 32) (h : b.toNat < 256) : 0 ≤ b.toInt ∧ b.toInt ≤ 255 := by
  rw [BitVec.toInt_eq_toNat_of_lt (by omega)]
  omega
theorem bv_of {x : Int} (h0 : 0 ≤ x) (h1 : x ≤ 255) : (Int32.ofInt x).toBitVec.toNat < 2 ^ 8 := by
  show (BitVec.ofInt 32 x).toNat < 2 ^ 8
  rw [BitVec.toNat_ofInt]
  omega
theorem jand_b {x y : Int} (h0 : 0 ≤ y) (h1 : y ≤ 255) : 0 ≤ jand x y ∧ jand x y ≤ 255 := by
  refine bv_b ((Int32.ofInt x).toBitVec &&& (Int32.ofInt y).toBitVec) ?_
  rw [BitVec.toNat_and]
  exact Nat.and_lt_two_pow (n := 8) _ (bv_of h0 h1)
theorem jor_b {x y : Int} (g0 : 0 ≤ x) (g1 : x ≤ 255) (h0 : 0 ≤ y) (h1 : y ≤ 255) : 0 ≤ jor x y ∧ jor x y ≤ 255 := by
  refine bv_b ((Int32.ofInt x).toBitVec ||| (Int32.ofInt y).toBitVec) ?_
  rw [BitVec.toNat_or]
  exact Nat.or_lt_two_pow (n := 8) (bv_of g0 g1) (bv_of h0 h1)
theorem jxor_b {x y : Int} (g0 : 0 ≤ x) (g1 : x ≤ 255) (h0 : 0 ≤ y) (h1 : y ≤ 255) : 0 ≤ jxor x y ∧ jxor x y ≤ 255 := by
  refine bv_b ((Int32.ofInt x).toBitVec ^^^ (Int32.ofInt y).toBitVec) ?_
  rw [BitVec.toNat_xor]
  exact Nat.xor_lt_two_pow (n := 8) (bv_of g0 g1) (bv_of h0 h1)
theorem jneg_v (x : Int) : jv (jneg x) := by
  unfold jneg
  split
  · exact Or.inl rfl
  · split
    · exact Or.inr (by omega)
    · exact Or.inr (by omega)
theorem jop_v {sg x y : Int} (hx : jv x) (hy : jv y) : jv (jop sg x y) := by
  unfold jop
  split
  · split
    · exact Or.inr (by omega)
    · split
      · exact Or.inl rfl
      · exact Or.inr (jand_b (by unfold jv at *; omega) (by unfold jv at *; omega))
  · split
    · exact Or.inl rfl
    · rename_i q
      have x1 : 0 ≤ x ∧ x ≤ 255 := by unfold jv at *; omega
      have y1 : 0 ≤ y ∧ y ≤ 255 := by unfold jv at *; omega
      split
      · exact Or.inr (jor_b x1.1 x1.2 y1.1 y1.2)
      · split
        · exact Or.inr (jxor_b x1.1 x1.2 y1.1 y1.2)
        · split
          · exact Or.inr (jand_b (by decide) (by decide))
          · exact Or.inr (jand_b (by decide) (by decide))
/-- the height of the stack behind the first steps of a code -/
def hg (c : Nat → Int) (o : Nat) : Nat → Nat
  | 0 => 0
  | j + 1 => if c (o + 2 * j) = 2 then hg c o j else if c (o + 2 * j) = 3 then hg c o j - 1 else hg c o j + 1
theorem hg_p {c : Nat → Int} {o j : Nat} (h1 : c (o + 2 * j) ≠ 2) (h2 : c (o + 2 * j) ≠ 3) : hg c o (j + 1) = hg c o j + 1 := by
  conv => lhs; unfold hg
  rw [if_neg h1, if_neg h2]
theorem hg_n {c : Nat → Int} {o j : Nat} (h1 : c (o + 2 * j) = 2) : hg c o (j + 1) = hg c o j := by
  conv => lhs; unfold hg
  rw [if_pos h1]
theorem hg_o {c : Nat → Int} {o j : Nat} (h1 : c (o + 2 * j) = 3) : hg c o (j + 1) = hg c o j - 1 := by
  conv => lhs; unfold hg
  rw [if_neg (by omega), if_pos h1]
/-- the stack behind them -/
def sk (c : Nat → Int) (o : Nat) (nv : Nat → Int) : Nat → Nat → Int
  | 0 => fun _ => 0
  | j + 1 => fun i => if c (o + 2 * j) = 2 then (if i + 1 = hg c o j then jneg (sk c o nv j i) else sk c o nv j i)
    else if c (o + 2 * j) = 3 then (if i + 2 = hg c o j then jop (c (o + 2 * j + 1)) (sk c o nv j i) (sk c o nv j (i + 1)) else sk c o nv j i)
    else if i = hg c o j then (if c (o + 2 * j) = 0 then c (o + 2 * j + 1) else nv (c (o + 2 * j + 1)).toNat) else sk c o nv j i
/-- steps that may stand there, for a node k -/
def CQ (c : Nat → Int) (o m k : Nat) : Prop := ∀ j, j < m → hg c o (j + 1) ≤ 6 ∧ ((c (o + 2 * j) = 0 ∧ 0 ≤ c (o + 2 * j + 1) ∧ c (o + 2 * j + 1) ≤ 255) ∨ (c (o + 2 * j) = 1 ∧ 0 ≤ c (o + 2 * j + 1) ∧ c (o + 2 * j + 1) < k) ∨ (c (o + 2 * j) = 2 ∧ 1 ≤ hg c o j) ∨ (c (o + 2 * j) = 3 ∧ 2 ≤ hg c o j ∧ (c (o + 2 * j + 1) = 38 ∨ c (o + 2 * j + 1) = 124 ∨ c (o + 2 * j + 1) = 94 ∨ c (o + 2 * j + 1) = 43 ∨ c (o + 2 * j + 1) = 45)))
def CW (c : Nat → Int) (o m k : Nat) : Prop := m ≤ 17 ∧ hg c o m = 1 ∧ CQ c o m k
theorem sk_v {c nv : Nat → Int} {o k : Nat} (hv : ∀ i, i < k → jv (nv i)) : ∀ m, CQ c o m k → ∀ i, i < hg c o m → jv (sk c o nv m i)
  | 0, _, i, hi => absurd hi (Nat.not_lt_zero _)
  | m + 1, hc, i, hi => by
    have ih := sk_v hv m (fun j hj => hc j (by omega))
    obtain ⟨c1, c2⟩ := hc m (by omega)
    unfold hg at hi
    unfold sk
    rcases c2 with ⟨e, f1, f2⟩ | ⟨e, f1, f2⟩ | ⟨e, f1⟩ | ⟨e, f1, f2⟩
    · rw [if_neg (by omega), if_neg (by omega)] at hi ⊢
      by_cases q : i = hg c o m
      · rw [if_pos q, if_pos e]; exact Or.inr ⟨f1, f2⟩
      · rw [if_neg q]; exact ih i (by omega)
    · rw [if_neg (by omega), if_neg (by omega)] at hi ⊢
      by_cases q : i = hg c o m
      · rw [if_pos q, if_neg (by omega)]; exact hv _ (by omega)
      · rw [if_neg q]; exact ih i (by omega)
    · rw [if_pos e] at hi ⊢
      split
      · exact jneg_v _
      · exact ih i hi
    · rw [if_neg (by omega), if_pos e] at hi ⊢
      split
      · exact jop_v (ih _ (by omega)) (ih _ (by omega))
      · exact ih i (by omega)
/-- the values of the first k nodes, where the wires have the values w -/
def nvs (node code cm w : Nat → Int) : Nat → Nat → Int
  | 0 => fun _ => 0
  | k + 1 => fun i => if i = k then (if node (6 * k) = 0 then w (wr node k) else if node (6 * k) = 1 then nvs node code cm w k (node (6 * k + 2)).toNat else sk code (40 * wr node k) (nvs node code cm w k) (cm (wr node k)).toNat 0) else nvs node code cm w k i
theorem nvs_lt {node code cm w : Nat → Int} {k i : Nat} (hi : i < k) : ∀ m, nvs node code cm w (k + m) i = nvs node code cm w k i
  | 0 => rfl
  | m + 1 => by
    show nvs node code cm w ((k + m) + 1) i = _
    rw [show nvs node code cm w ((k + m) + 1) i = nvs node code cm w (k + m) i by
      conv => lhs; unfold nvs
      rw [if_neg (by omega)]]
    exact nvs_lt hi m
theorem nvs_le {node code cm w : Nat → Int} {k n i : Nat} (hi : i < k) (hn : k ≤ n) : nvs node code cm w n i = nvs node code cm w k i := by
  rw [show n = k + (n - k) by omega]
  exact nvs_lt hi _
/-- a node in its bounds -/
def NB (node : Nat → Int) (nw nd ns : Nat) (code cm : Nat → Int) (k : Nat) : Prop :=
  ((node (6 * k) = 0 ∧ 1 ≤ node (6 * k + 1) ∧ node (6 * k + 1) ≤ 8 ∧ node (6 * k + 2) = -9 ∧ 0 ≤ node (6 * k + 5) ∧ node (6 * k + 5) < nw) ∨
   (node (6 * k) = 1 ∧ node (6 * k + 1) = -9 ∧ 0 ≤ node (6 * k + 2) ∧ node (6 * k + 2) < k) ∨
   (node (6 * k) = 2 ∧ node (6 * k + 1) = -9 ∧ node (6 * k + 2) = -9 ∧ 0 ≤ node (6 * k + 5) ∧ node (6 * k + 5) < nd ∧ 0 ≤ cm (wr node k) ∧ CW code (40 * wr node k) (cm (wr node k)).toNat k)) ∧
  (node (6 * k + 3) = -9 ∨ (0 ≤ node (6 * k + 3) ∧ node (6 * k + 3) < ns)) ∧ 0 ≤ node (6 * k + 4) ∧ node (6 * k + 4) ≤ 25
theorem nvs_v {node code cm w : Nat → Int} {n nw nd ns : Nat} (hw : ∀ i, i < nw → jv (w i)) (hB : ∀ k, k < n → NB node nw nd ns code cm k) : ∀ k, k ≤ n → ∀ i, i < k → jv (nvs node code cm w k i)
  | 0, _, i, hi => absurd hi (Nat.not_lt_zero _)
  | k + 1, hk, i, hi => by
    have ih := nvs_v hw hB k (by omega)
    unfold nvs
    by_cases q : i = k
    · rw [if_pos q]
      obtain ⟨c1, -⟩ := hB k (by omega)
      rcases c1 with ⟨e, -, -, -, f1, f2⟩ | ⟨e, -, f1, f2⟩ | ⟨e, -, -, f1, f2, f3, f4⟩
      · rw [if_pos e]; exact hw _ (by unfold wr; omega)
      · rw [if_neg (by omega), if_pos e]; exact ih _ (by omega)
      · rw [if_neg (by omega), if_neg (by omega)]
        exact sk_v ih _ f4.2.2 0 (by have := f4.2.1; omega)
    · rw [if_neg q]; exact ih i (by omega)
/-- home or scope: -9 stands for the top, where the class has -1 -/
def tp (x : Int) : Int := if x = -9 then -1 else x
/-- a step as the class keeps it -/
def enc (what its : Int) : Int := if what = 0 then its else if what = 1 then 1000 + its else if what = 2 then -33 else -its
/-- the design's cells -/
def DK (h : jH) (D : Nat) : Prop := (jS h D).1 = 2 ∧ jP h D 4 = D + 1 ∧ jP h D 5 = D + 2 ∧ jP h D 6 = D + 3 ∧ jP h D 7 = D + 4 ∧ jP h D 8 = D + 5 ∧ jP h D 9 = D + 6 ∧ jP h D 10 = D + 7 ∧ jP h D 11 = D + 20 ∧ jP h D 12 = D + 21 ∧
  jS h (D + 1) = (16, 12) ∧ jS h (D + 2) = (16, 12) ∧ jS h (D + 3) = (16, 12) ∧ jS h (D + 4) = (16, 12) ∧ jS h (D + 5) = (16, 6) ∧ jS h (D + 6) = (16, 6) ∧ jS h (D + 7) = (20, 12) ∧ jS h (D + 20) = (16, 12) ∧ jS h (D + 21) = (16, 6) ∧ ∀ i, i < 12 → jS h (D + 8 + i) = (16, 17)
/-- the rows of the codes lie where they were made -/
def DY (h : jH) (D : Nat) : Prop := ∀ i, i < 12 → jY h (D + 7) i = D + 8 + i
/-- signal k of the class stands for node k -/
def NRep (h : jH) (D : Nat) (node code cm : Nat → Int) (k : Nat) : Prop :=
  jX h (D + 1) k = node (6 * k) ∧ jX h (D + 3) k = tp (node (6 * k + 3)) ∧ jX h (D + 4) k = node (6 * k + 4) ∧ (node (6 * k) = 0 → jX h (D + 2) k = node (6 * k + 1)) ∧ (node (6 * k) = 1 → jX h (D + 2) k = node (6 * k + 2)) ∧
  (node (6 * k) = 2 → jX h (D + 20) k = cm (wr node k) ∧ ∀ j : Nat, (j : Int) < cm (wr node k) → jX h (D + 8 + k) j = enc (code (40 * wr node k + 2 * j)) (code (40 * wr node k + 2 * j + 1)))
def DRep (h : jH) (D : Nat) (node : Nat → Int) (n nw nd : Nat) (wi sn : Nat → Int) (ns : Nat) (code cm : Nat → Int) : Prop :=
  jI h D 0 = (n : Int) ∧ jI h D 1 = (nw : Int) ∧ jI h D 2 = (nd : Int) ∧ jI h D 3 = (ns : Int) ∧ (∀ k, k < n → NRep h D node code cm k) ∧ ∀ k, k < ns → jX h (D + 5) k = tp (wi k) ∧ jX h (D + 6) k = sn k
/-- only int elements of the cells of P have changed -/
def FX (P : Nat → Prop) (h g : jH) : Prop := jI g = jI h ∧ jP g = jP h ∧ jY g = jY h ∧ jS g = jS h ∧ jN g = jN h ∧ ∀ b, ¬ P b → jX g b = jX h b
theorem FX.rf {P : Nat → Prop} {h : jH} : FX P h h := ⟨rfl, rfl, rfl, rfl, rfl, fun _ _ => rfl⟩
theorem FX.trans {P : Nat → Prop} {h g k : jH} (h1 : FX P h g) (h2 : FX P g k) : FX P h k :=
  ⟨h2.1.trans h1.1, h2.2.1.trans h1.2.1, h2.2.2.1.trans h1.2.2.1, h2.2.2.2.1.trans h1.2.2.2.1, h2.2.2.2.2.1.trans h1.2.2.2.2.1, fun b hb => (h2.2.2.2.2.2 b hb).trans (h1.2.2.2.2.2 b hb)⟩
theorem FX.wide {P P' : Nat → Prop} {h g : jH} (h1 : FX P h g) (hp : ∀ b, P b → P' b) : FX P' h g :=
  ⟨h1.1, h1.2.1, h1.2.2.1, h1.2.2.2.1, h1.2.2.2.2.1, fun b hb => h1.2.2.2.2.2 b (fun z => hb (hp b z))⟩
theorem FX.sX {P : Nat → Prop} {h : jH} {a k : Nat} {v : Int} (ha : P a) : FX P h (jsX h a k v) :=
  ⟨rfl, rfl, rfl, rfl, rfl, fun b hb => funext fun j => by rw [jX_sX, if_neg (show ¬ (b = a ∧ j = k) from fun z => hb (by rw [z.1]; exact ha))]⟩
theorem FX.Fr {P : Nat → Prop} {h g : jH} {lo hi : Nat} (h1 : FX P h g) (hp : ∀ b, P b → lo ≤ b ∧ b < hi) : Fr lo hi h g :=
  ⟨h1.2.1, h1.2.2.2.1, h1.2.2.2.2.1, fun a ha => ⟨by rw [h1.1], h1.2.2.2.2.2 a (fun z => by have := hp a z; omega), by rw [h1.2.2.1]⟩⟩
theorem DK.fx {P : Nat → Prop} {h g : jH} {D : Nat} (hD : DK h D) (h1 : FX P h g) : DK g D := by
  unfold DK
  rw [h1.2.1, h1.2.2.2.1]
  exact hD
theorem DRep.fx {P : Nat → Prop} {h g : jH} {D n nw nd ns : Nat} {node wi sn code cm : Nat → Int} (hR : DRep h D node n nw nd wi sn ns code cm) (h1 : FX P h g) (hn : n ≤ 12) (hp : ∀ b, P b → b < D ∨ D + 21 ≤ b) : DRep g D node n nw nd wi sn ns code cm := by
  obtain ⟨r0, r1, r2, r3, r4, r5⟩ := hR
  have e : ∀ i, i < 21 → jX g (D + i) = jX h (D + i) := fun i hi => h1.2.2.2.2.2 _ (fun z => by have := hp _ z; omega)
  refine ⟨by rw [h1.1]; exact r0, by rw [h1.1]; exact r1, by rw [h1.1]; exact r2, by rw [h1.1]; exact r3, fun k hk => ?_, fun k hk => by rw [e 5 (by omega), e 6 (by omega)]; exact r5 k hk⟩
  have e8 := e (8 + k) (by omega)
  rw [← Nat.add_assoc] at e8
  unfold NRep
  rw [e 1 (by omega), e 2 (by omega), e 3 (by omega), e 4 (by omega), e 20 (by omega), e8]
  exact r4 k hk
end KM
