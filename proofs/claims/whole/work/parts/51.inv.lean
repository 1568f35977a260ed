/-! ===== what holds between two calls ===== -/
section KX
variable {h g : jH} {node wi sn code cm s past : Nat → Int} {n nw nd ns u D : Nat} {K : Int}
/-- how many scopes lie around each, itself among them -/
def de (wi : Nat → Int) : Nat → Nat → Nat
  | 0 => fun _ => 0
  | k + 1 => fun i => if i = k then (if wi k < 0 then 1 else de wi k (wi k).toNat + 1) else de wi k i
/-- what is told, in its bounds -/
def DG (node : Nat → Int) (n nw nd : Nat) (wi sn : Nat → Int) (ns : Nat) (code cm : Nat → Int) : Prop :=
  n ≤ 12 ∧ nw ≤ 6 ∧ nd ≤ 4 ∧ ns ≤ 6 ∧ (∀ k, k < n → NB node nw nd ns code cm k) ∧ WD node n ∧
  (∀ k, k < ns → (wi k = -9 ∨ (0 ≤ wi k ∧ wi k < k)) ∧ 0 ≤ sn k ∧ sn k ≤ 25 ∧ de wi ns k ≤ 4) ∧
  (∀ j k, j < n → k < n → node (6 * j + 3) = node (6 * k + 3) → node (6 * j + 4) = node (6 * k + 4) → j = k) ∧
  (∀ j k, j < ns → k < ns → wi j = wi k → sn j = sn k → j = k) ∧
  ∀ j k, j < n → k < ns → node (6 * j + 3) = wi k → node (6 * j + 4) = sn k → False
theorem DG.wn (hG : DG node n nw nd wi sn ns code cm) : WN node n := by
  obtain ⟨g1, g2, g3, g4, g5, g6, g7, g8, g9, g10⟩ := hG
  refine ⟨g1, fun k hk hw => ?_⟩
  have := (g5 k hk).1
  omega
/-- the cells lie where they were made -/
def IX (h : jH) : Prop :=
  ((jS h 2).1 = 8 ∧ jP h 2 0 = 3 ∧ jP h 2 3 = 49 ∧ jP h 2 4 = 50 ∧ jP h 2 5 = 89 ∧ jP h 2 6 = 325 ∧ jP h 2 7 = 326 ∧ jP h 2 8 = 327 ∧ jP h 2 9 = 328 ∧ jP h 2 11 = 329 ∧ jP h 2 12 = 393 ∧ jP h 2 13 = 397) ∧
  ((jS h 3).1 = 7 ∧ jP h 3 0 = 4 ∧ jS h 4 = (16, 160) ∧ (jS h 49).1 = 5 ∧ jP h 49 0 = 3 ∧ jS h 325 = (19, 2) ∧ jS h 326 = (17, 2) ∧ jS h 327 = (16, 6) ∧ jS h 328 = (16, 6) ∧ jS h 397 = (16, 12)) ∧
  ((jS h 393).1 = 1 ∧ jP h 393 1 = 394 ∧ jP h 393 2 = 395 ∧ jP h 393 3 = 396 ∧ jS h 394 = (16, 48) ∧ jS h 395 = (16, 48) ∧ jS h 396 = (16, 48)) ∧
  HK h ∧ HY h ∧ SK h 50 ∧ SK h 398 ∧ SK h 437 ∧ DK h 5 ∧ DK h 27 ∧ DY h 5 ∧ DY h 27 ∧ PO h ∧ RB h 50 ∧ RB h 398 ∧ RB h 437 ∧ (jY h 325 0 = 398 ∧ jY h 325 1 = 437) ∧ MK h
/-- a kept image -/
def IK (h : jH) (node : Nat → Int) (n : Nat) (K : Int) (i r : Nat) : Prop :=
  jX h 326 i = jX h 485 i ∧ (jX h 326 i = 0 ∨ jX h 326 i = 1) ∧ (jX h 326 i = 1 → RecRep h r (fun k => jX h 484 (209 * i + k)) node n ∧ SI (fun k => jX h 484 (209 * i + k)) node n K)
/-- what was seen -/
def IO (h : jH) : Prop := ∃ o : Nat, jI h 2 10 = (o : Int) ∧ jI h 476 49 = (o : Int) ∧ o ≤ 6 ∧ ∀ i, i < o → jX h 327 i = jX h 503 (2 * i) ∧ jX h 328 i = jX h 503 (2 * i + 1) ∧ 0 ≤ jX h 327 i ∧ jX h 327 i ≤ 999
/-- what is typed -/
def IT (h : jH) : Prop := ∃ c : Nat, jI h 3 1 = (c : Int) ∧ jI h 476 15 = (c : Int) ∧ c ≤ 160 ∧ ∀ i, i < c → jX h 4 i = jX h 486 i ∧ 0 ≤ jX h 4 i ∧ jX h 4 i ≤ 255
def ID (h : jH) (D : Nat) (node : Nat → Int) (n nw nd : Nat) (wi sn : Nat → Int) (ns : Nat) (code cm : Nat → Int) : Prop :=
  ((D = 5 ∧ jP h 2 1 = 5 ∧ jP h 2 2 = 27) ∨ (D = 27 ∧ jP h 2 1 = 27 ∧ jP h 2 2 = 5)) ∧ DRep h D node n nw nd wi sn ns code cm ∧ MD h node n nw nd wi sn ns code cm ∧ DG node n nw nd wi sn ns code cm
def IV (h : jH) (D : Nat) (node : Nat → Int) (n nw nd : Nat) (wi sn : Nat → Int) (ns : Nat) (code cm s past : Nat → Int) (u : Nat) (K : Int) : Prop :=
  IX h ∧ ID h D node n nw nd wi sn ns code cm ∧ (RecRep h 50 s node n ∧ jX h 482 = s ∧ SI s node n K) ∧ (PRep h past u node n K ∧ jX h 483 = past ∧ jI h 476 11 = (u : Int)) ∧ IK h node n K 0 398 ∧ IK h node n K 1 437 ∧ IO h ∧ IT h
/-- cells that queries write -/
def sc (a : Nat) : Prop := a = 26 ∨ a = 48 ∨ a = 329 ∨ a = 330 ∨ (332 ≤ a ∧ a < 398) ∨ (487 ≤ a ∧ a < 503)
/-- fields of the model that queries write -/
def sf (k : Nat) : Prop := (16 ≤ k ∧ k ≤ 20) ∨ (22 ≤ k ∧ k ≤ 35) ∨ k = 45 ∨ k = 47
/-- the frame of queries -/
def XF (h g : jH) : Prop := jP g = jP h ∧ jS g = jS h ∧ jN g = jN h ∧ (∀ a, ¬ sc a → jX g a = jX h a ∧ jY g a = jY h a ∧ (a ≠ 476 → a ≠ 3 → a ≠ 49 → jI g a = jI h a)) ∧ (∀ k, ¬ sf k → jI g 476 k = jI h 476 k) ∧ jI g 3 1 = jI h 3 1
theorem XF.rf : XF h h := ⟨rfl, rfl, rfl, fun _ _ => ⟨rfl, rfl, fun _ _ _ => rfl⟩, fun _ _ => rfl, rfl⟩
theorem XF.trans {k : jH} (h1 : XF h g) (h2 : XF g k) : XF h k :=
  ⟨h2.1.trans h1.1, h2.2.1.trans h1.2.1, h2.2.2.1.trans h1.2.2.1, fun a ha => ⟨(h2.2.2.2.1 a ha).1.trans (h1.2.2.2.1 a ha).1, (h2.2.2.2.1 a ha).2.1.trans (h1.2.2.2.1 a ha).2.1, fun b c e => ((h2.2.2.2.1 a ha).2.2 b c e).trans ((h1.2.2.2.1 a ha).2.2 b c e)⟩, fun k hk => (h2.2.2.2.2.1 k hk).trans (h1.2.2.2.2.1 k hk), h2.2.2.2.2.2.trans h1.2.2.2.2.2⟩
theorem FP.xf {P : Nat → Prop} (h1 : FP P h g) (hp : ∀ a, P a → sc a) : XF h g :=
  ⟨h1.1, h1.2.1, h1.2.2.1, fun a ha => ⟨(h1.2.2.2 a (fun z => ha (hp a z))).2.1, (h1.2.2.2 a (fun z => ha (hp a z))).2.2, fun _ _ _ => (h1.2.2.2 a (fun z => ha (hp a z))).1⟩, fun k _ => by rw [(h1.2.2.2 476 (fun z => by have := hp _ z; unfold sc at this; omega)).1], by rw [(h1.2.2.2 3 (fun z => by have := hp _ z; unfold sc at this; omega)).1]⟩
/-- cells that no query writes at all -/
theorem XF.fp (h1 : XF h g) : FP (fun a => sc a ∨ a = 476 ∨ a = 3 ∨ a = 49) h g :=
  ⟨h1.1, h1.2.1, h1.2.2.1, fun a ha => ⟨(h1.2.2.2.1 a (fun z => ha (Or.inl z))).2.2 (fun z => ha (by omega)) (fun z => ha (by omega)) (fun z => ha (by omega)), (h1.2.2.2.1 a (fun z => ha (Or.inl z))).1, (h1.2.2.2.1 a (fun z => ha (Or.inl z))).2.1⟩⟩
theorem IX.fp {P : Nat → Prop} (hI : IX h) (h1 : FP P h g) (hp : ∀ a, (a = 12 ∨ a = 34 ∨ a = 51 ∨ (89 ≤ a ∧ a ≤ 325) ∨ a = 331 ∨ a = 399 ∨ a = 438) → ¬ P a) : IX g := by
  obtain ⟨x1, x2, x3, x4, x5, x6, x7, x8, x9, x10, x11, x12, x13, x14, x15, x16, x17, x18⟩ := hI
  refine ⟨?_, ?_, ?_, x4.fp h1, x5.fp h1 (hp _ (by omega)), x6.fr h1.1 h1.2.1, x7.fr h1.1 h1.2.1, x8.fr h1.1 h1.2.1, x9.fp h1, x10.fp h1, x11.fp h1 (hp _ (by omega)), x12.fp h1 (hp _ (by omega)), x13.fp h1 (fun a h2 h3 => hp a (by omega)), x14.fp h1 (hp _ (by omega)), x15.fp h1 (hp _ (by omega)), x16.fp h1 (hp _ (by omega)), ?_, x18.fr h1.1 h1.2.1⟩
  · rw [h1.1, h1.2.1]; exact x1
  · rw [h1.1, h1.2.1]; exact x2
  · rw [h1.1, h1.2.1]; exact x3
  · rw [(h1.2.2.2 325 (hp _ (by omega))).2.2]; exact x17
theorem IV.xf (hI : IV h D node n nw nd wi sn ns code cm s past u K) (h1 : XF h g) : IV g D node n nw nd wi sn ns code cm s past u K := by
  obtain ⟨v1, ⟨v2, v3, v4, v5⟩, ⟨v6, v7, v8⟩, ⟨v9, v10, v11⟩, v12, v13, v14, v15⟩ := hI
  have f := h1.fp
  have e : ∀ a, ¬ sc a → jX g a = jX h a := fun a ha => (h1.2.2.2.1 a ha).1
  have hx : ∀ a, sc a → (a = 26 ∨ a = 48 ∨ a = 329 ∨ a = 330 ∨ (332 ≤ a ∧ a < 398) ∨ (487 ≤ a ∧ a < 503)) := fun a z => z
  have hsi := v8.2.2.2.2.2.2.1
  obtain ⟨x1, x2, x3, x4, x5, x6, x7, x8, x9, x10, x11, x12, x13, x14, x15, x16, x17, x18⟩ := id v1
  refine ⟨v1.fp f (fun a ha => by unfold sc; omega), ⟨by rw [h1.1]; exact v2, v3.fp f v5.1 (fun a h2 h3 => by unfold sc; omega), ?_, v5⟩, ⟨v6.fp x14 hsi f (fun a h2 h3 => by unfold sc; omega), by rw [e 482 (by unfold sc; omega)]; exact v7, v8⟩, ⟨v9.fp x13 f (fun a h2 h3 => by unfold sc; omega), by rw [e 483 (by unfold sc; omega)]; exact v10, by rw [h1.2.2.2.2.1 11 (by unfold sf; omega)]; exact v11⟩, ?_, ?_, ?_, ?_⟩
  · obtain ⟨m1, m2, m3, m4, m5⟩ := v4
    refine ⟨by rw [h1.2.2.2.2.1 1 (by unfold sf; omega)]; exact m1, by rw [h1.2.2.2.2.1 2 (by unfold sf; omega)]; exact m2, by rw [h1.2.2.2.2.1 3 (by unfold sf; omega)]; exact m3, by rw [h1.2.2.2.2.1 6 (by unfold sf; omega)]; exact m4, ?_⟩
    rw [e 477 (by unfold sc; omega), e 478 (by unfold sc; omega), e 479 (by unfold sc; omega), e 480 (by unfold sc; omega), e 481 (by unfold sc; omega)]
    exact m5
  · obtain ⟨y1, y2, y3⟩ := v12
    unfold IK
    rw [e 326 (by unfold sc; omega), e 485 (by unfold sc; omega), e 484 (by unfold sc; omega)]
    exact ⟨y1, y2, fun z => ⟨(y3 z).1.fp x15 (y3 z).2.2.2.2.2.2.2.1 f (fun a h2 h3 => by unfold sc; omega), (y3 z).2⟩⟩
  · obtain ⟨y1, y2, y3⟩ := v13
    unfold IK
    rw [e 326 (by unfold sc; omega), e 485 (by unfold sc; omega), e 484 (by unfold sc; omega)]
    exact ⟨y1, y2, fun z => ⟨(y3 z).1.fp x16 (y3 z).2.2.2.2.2.2.2.1 f (fun a h2 h3 => by unfold sc; omega), (y3 z).2⟩⟩
  · unfold IO
    rw [e 327 (by unfold sc; omega), e 328 (by unfold sc; omega), e 503 (by unfold sc; omega), h1.2.2.2.2.1 49 (by unfold sf; omega), (h1.2.2.2.1 2 (by unfold sc; omega)).2.2 (by omega) (by omega) (by omega)]
    exact v14
  · unfold IT
    rw [e 4 (by unfold sc; omega), e 486 (by unfold sc; omega), h1.2.2.2.2.1 15 (by unfold sf; omega), h1.2.2.2.2.2]
    exact v15
end KX
