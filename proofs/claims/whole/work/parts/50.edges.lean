/-! ===== moments and lines: edges ===== -/
section KW
variable {h g : jH} {node wi sn code cm s : Nat → Int} {n nw nd ns : Nat} {K : Int} {l : Nat → Nat → Int} {L cnt : Nat} {T : Nat → Nat}
/-- an edge of a line -/
def ed (l : Nat → Int) (kind : Int) (t : Nat) : Prop := 1 ≤ t ∧ l (t - 1) ≠ -7 ∧ l t ≠ -7 ∧ l t ≠ l (t - 1) ∧ (kind = 0 ∨ (kind = 1 ∧ l (t - 1) < l t) ∨ (kind ≠ 0 ∧ kind ≠ 1 ∧ l t < l (t - 1)))
/-- the history and the lines of the first n signals -/
def HL (g : jH) (L cnt : Nat) (T : Nat → Nat) (l : Nat → Nat → Int) (n : Nat) : Prop :=
  jI g 329 0 = (cnt : Int) ∧ jI g 329 1 = (L : Int) ∧ 1 ≤ cnt ∧ cnt ≤ 61 ∧ L ≤ 999 ∧ T 0 = 0 ∧ (∀ i, i < cnt → jX g 330 i = (T i : Int)) ∧ (∀ i j, i < j → j < cnt → T i < T j) ∧ (∀ i, i < cnt → T i ≤ L) ∧
  ∀ i, i < cnt → ∀ k, k < n → ∀ t, T i ≤ t → t ≤ L → (i + 1 < cnt → t < T (i + 1)) → jX g (332 + i) k = l k t
theorem tn_nn (hs : SI s node n K) {t : Int} (ht : tn s t) : 0 ≤ t := by
  obtain ⟨i0, i1, i2, i3, i4, i5, i6, i7, i8, i9, i10⟩ := id hs
  rcases ht with z | ⟨i, hi, (z | ⟨j, hj, z⟩) | z⟩
  · omega
  · have := (i10 i (by omega)).1; omega
  · have hb := i10 i (by omega)
    have h0 := hb.1
    have hm := hb.2.2.2.1
    have h1 := (hb.2.2.2.2.2.2.1 j (by omega)).1
    omega
  · have hb := i10 i (by omega)
    have h0 := hb.1
    have h1 := hb.2.2.1
    omega
theorem HR.hl (hH : HR g s node code cm n) (hs : SI s node n K) : ∃ cnt, HL g (s 0).toNat cnt (fun i => (jX g 330 i).toNat) (nl node code cm s n) n := by
  obtain ⟨i0, i1, -⟩ := id hs
  obtain ⟨h1, cnt, h2, h3, h4, h5, h6, h7⟩ := hH
  have nn : ∀ i, i < cnt → 0 ≤ jX g 330 i := fun i hi => tn_nn hs (h5 i hi).1
  obtain ⟨z, hz, ez⟩ := h6 0 tn_0 i0
  have e0 : jX g 330 0 = 0 := by
    by_cases q : z = 0
    · subst q; exact ez
    · have := h4 0 z (by omega) hz
      have := nn 0 (by omega)
      omega
  refine ⟨cnt, h2, by omega, by omega, h3, by omega, by show (jX g 330 0).toNat = 0; omega, fun i hi => by have := nn i hi; show jX g 330 i = (((jX g 330 i).toNat : Nat) : Int); omega, fun i j hij hj => by have := h4 i j hij hj; have := nn i (by omega); show (jX g 330 i).toNat < (jX g 330 j).toNat; omega, fun i hi => by have := (h5 i hi).2; show (jX g 330 i).toNat ≤ (s 0).toNat; omega, fun i hi k hk t t1 t2 t3 => ?_⟩
  have hni := nn i hi
  have t1' : jX g 330 i ≤ (t : Int) := by have : (jX g 330 i).toNat ≤ t := t1; omega
  rw [h7 i hi k hk]
  unfold nl
  rw [ltn_r (a := (jX g 330 i).toNat) (by rw [show (((jX g 330 i).toNat : Nat) : Int) = jX g 330 i by omega]; exact (h5 i hi).1) t (by omega) (fun u u1 u2 hu => ?_), show (((jX g 330 i).toNat : Nat) : Int) = jX g 330 i by omega]
  obtain ⟨j, hj, ej⟩ := h6 (u : Int) hu (by omega)
  by_cases q : j ≤ i
  · by_cases q2 : j = i
    · subst q2; omega
    · have := h4 j i (by omega) hi; omega
  · have t4 : (t : Int) < jX g 330 (i + 1) := by
      have := t3 (by omega)
      have h9 : t < (jX g 330 (i + 1)).toNat := this
      omega
    by_cases q2 : j = i + 1
    · subst q2; omega
    · have := h4 (i + 1) j (by omega) hj; omega
theorem HL.seg (hH : HL g L cnt T l n) {t : Nat} : ∀ m, m < cnt → T m ≤ t → ∃ i, i < cnt ∧ m ≤ i ∧ T i ≤ t ∧ (i + 1 < cnt → t < T (i + 1)) := by
  obtain ⟨h1, h2, h3, h4, h5, h6, h7, h8, h9, h10⟩ := hH
  have key : ∀ k m, m + k + 1 = cnt → T m ≤ t → ∃ i, i < cnt ∧ m ≤ i ∧ T i ≤ t ∧ (i + 1 < cnt → t < T (i + 1)) := by
    intro k
    induction k with
    | zero => intro m hm ht; exact ⟨m, by omega, Nat.le_refl _, ht, fun q => by omega⟩
    | succ k ih =>
      intro m hm ht
      by_cases q : T (m + 1) ≤ t
      · obtain ⟨i, a, b, c, d⟩ := ih (m + 1) (by omega) q
        exact ⟨i, a, by omega, c, d⟩
      · exact ⟨m, by omega, Nat.le_refl _, ht, fun _ => by omega⟩
  intro m hm ht
  exact key (cnt - m - 1) m (by omega) ht
/-- a line has its edges at moments -/
theorem HL.at (hH : HL g L cnt T l n) {k t : Nat} {kind : Int} (hk : k < n) (ht : t ≤ L) (he : ed (l k) kind t) : ∃ i, i < cnt ∧ T i = t := by
  obtain ⟨h1, h2, h3, h4, h5, h6, h7, h8, h9, h10⟩ := id hH
  obtain ⟨i, a, -, b, c⟩ := hH.seg (t := t) 0 (by omega) (by omega)
  by_cases q : T i = t
  · exact ⟨i, a, q⟩
  · have e1 := h10 i a k hk t b ht c
    have e2 := h10 i a k hk (t - 1) (by omega) (by omega) (fun z => by have := c z; omega)
    exact absurd (e1.symm.trans e2) he.2.2.2.1
/-- edges at a moment -/
theorem HL.edg (hH : HL g L cnt T l n) {k i : Nat} {kind : Int} (hk : k < n) (hi : i < cnt) : ed (l k) kind (T i) ↔ i ≠ 0 ∧ jX g (332 + (i - 1)) k ≠ -7 ∧ jX g (332 + i) k ≠ -7 ∧ jX g (332 + i) k ≠ jX g (332 + (i - 1)) k ∧ (kind = 0 ∨ (kind = 1 ∧ jX g (332 + (i - 1)) k < jX g (332 + i) k) ∨ (kind ≠ 0 ∧ kind ≠ 1 ∧ jX g (332 + i) k < jX g (332 + (i - 1)) k)) := by
  obtain ⟨h1, h2, h3, h4, h5, h6, h7, h8, h9, h10⟩ := id hH
  by_cases q : i = 0
  · subst q
    rw [h6]
    constructor
    · intro z; exact absurd z.1 (by omega)
    · intro z; exact absurd rfl z.1
  · have hlt := h8 (i - 1) i (by omega) hi
    have e1 := h10 i hi k hk (T i) (Nat.le_refl _) (h9 i hi) (fun z => h8 i (i + 1) (by omega) z)
    have e2 := h10 (i - 1) (by omega) k hk (T i - 1) (by omega) (by have := h9 i hi; omega) (fun _ => by rw [show i - 1 + 1 = i by omega]; omega)
    unfold ed
    rw [e1, e2]
    constructor
    · rintro ⟨-, z⟩; exact ⟨q, z⟩
    · rintro ⟨-, z⟩; exact ⟨by omega, z⟩
/-- what a test of an edge answers -/
def bz (z : Int) (p : Prop) : Prop := (z = 0 ∨ z = 1) ∧ (z = 1 ↔ p)
theorem bz_1 {p : Prop} (hp : p) : bz 1 p := ⟨Or.inr rfl, fun _ => hp, fun _ => rfl⟩
theorem bz_0 {p : Prop} (hp : ¬ p) : bz 0 p := ⟨Or.inl rfl, fun q => absurd q (by decide), fun q => absurd q hp⟩
theorem eX3_isEdge {d k i : Nat} {kind : Int} (hK : HK h) (hY : HY h) (hH : HL h L cnt T l n) (hn : n ≤ 12) (hk : k < n) (hi : i < cnt) :
    Ex MX3_isEdge d [.inr 329, .inl (k : Int), .inl kind, .inl (i : Int)] h 0 0 (fun v g => (∃ z, v = some (.inl z) ∧ bz z (ed (l k) kind (T i))) ∧ g = h) := by
  obtain ⟨k1, k2, k3, k4, k5, k6⟩ := id hK
  have hed := hH.edg (kind := kind) hk hi
  have h61 := hH.2.2.2.1
  have e1 : jY h (jP h 329 3) ((((i : Nat) : Int)).toNat) = 332 + i := by rw [k3, Int.toNat_natCast]; exact hY i (by omega)
  have e2 : i ≠ 0 → jY h (jP h 329 3) ((((i : Nat) : Int) - 1).toNat) = 332 + (i - 1) := fun q => by rw [k3, show (((i : Nat) : Int) - 1).toNat = i - 1 by omega]; exact hY (i - 1) (by omega)
  refine Ex_of_V tX3_isEdge (Nat.le_of_ble_eq_true rfl) ?_
  by_cases hi0 : i = 0
  · subst hi0
    apply bX3_isEdge_0
    case q9 => intro _; exact ⟨⟨0, rfl, bz_0 (fun z => absurd rfl (hed.mp z).1)⟩, rfl⟩
    all_goals first
      | exact k1
      | (rw [k3, k5]; done)
      | (intro q; exact absurd rfl q)
  · have x1 := e2 hi0
    have x3 := Int.toNat_natCast k
    apply bX3_isEdge_0
    case q9 => intro q; omega
    all_goals (try simp only [x1, e1, x3])
    case q1 => intro _ q; exact ⟨⟨0, rfl, bz_0 (fun z => (hed.mp z).2.1 q)⟩, by first | rfl | trivial⟩
    case q2 => intro _ _ q; exact ⟨⟨0, rfl, bz_0 (fun z => (hed.mp z).2.2.1 q)⟩, by first | rfl | trivial⟩
    case q3 => intro _ a b c e; exact ⟨⟨1, rfl, bz_1 (hed.mpr ⟨hi0, a, b, fun z => c z.symm, Or.inl e⟩)⟩, by first | rfl | trivial⟩
    case q4 => intro _ a b c e f q; exact ⟨⟨1, rfl, bz_1 (hed.mpr ⟨hi0, a, b, fun z => c z.symm, Or.inr (Or.inr ⟨e, f, by omega⟩)⟩)⟩, by first | rfl | trivial⟩
    case q5 => intro _ a b c e f q; exact ⟨⟨0, rfl, bz_0 (fun z => by have := (hed.mp z).2.2.2.2; omega)⟩, by first | rfl | trivial⟩
    case q6 => intro _ a b c e f q; exact ⟨⟨0, rfl, bz_0 (fun z => by have := (hed.mp z).2.2.2.2; omega)⟩, by first | rfl | trivial⟩
    case q7 => intro _ a b c e f q; exact ⟨⟨1, rfl, bz_1 (hed.mpr ⟨hi0, a, b, fun z => c z.symm, Or.inr (Or.inl ⟨f, by omega⟩)⟩)⟩, by first | rfl | trivial⟩
    case q8 => intro _ a b c; exact ⟨⟨0, rfl, bz_0 (fun z => (hed.mp z).2.2.2.1 c.symm)⟩, by first | rfl | trivial⟩
    all_goals first
      | exact k1
      | (rw [k3, k5]; done)
      | (intros; exact ⟨by omega, by omega⟩)
      | (intros; omega)
      | (intros; rw [k3, k5]; refine Int.lt_of_le_of_lt (b := 60) ?_ (by decide); omega)
      | (intros; rw [k6 _ (by omega)]; done)
      | (intros; rw [k6 _ (by omega)]; refine Int.lt_of_le_of_lt (b := 11) ?_ (by decide); omega)
theorem eX3_after {d i : Nat} (hK : HK h) (hH : HL h L cnt T l n) (hi : i < cnt) :
    Ex MX3_after d [.inr 329, .inl (i : Int)] h 0 0 (fun v g => v = some (.inl ((if i + 1 < cnt then T (i + 1) else L + 1 : Nat) : Int)) ∧ g = h) := by
  obtain ⟨k1, k2, k3, k4, k5, k6⟩ := id hK
  obtain ⟨h1, h2, h3, h4, h5, h6, h7, h8, h9, h10⟩ := id hH
  refine Ex_of_V tX3_after (Nat.le_of_ble_eq_true rfl) ?_
  apply bX3_after_0
  case q1 => rw [h1, h2]; intro q; rw [if_neg (by omega)]; exact ⟨rfl, rfl⟩
  case q2 => rw [h1]; intro q; rw [if_pos (by omega), k2, show ((i : Int) + 1).toNat = i + 1 by omega, h7 (i + 1) (by omega)]; exact ⟨rfl, rfl⟩
  all_goals first
    | exact k1
    | (rw [k2, k4]; done)
    | (intros; exact ⟨by omega, by omega⟩)
    | (exact ⟨by omega, by omega⟩)
    | (intros; omega)
    | (rw [h1]; intros; rw [k2, k4]; refine Int.lt_of_le_of_lt (b := 60) ?_ (by decide); omega)
/-- a bit of a set -/
def bit (set : Int) (k : Nat) : Prop := jand (jshr set (k : Int)) 1 = 1
theorem eX3_hasEdgeOf {d i : Nat} {set : Int} (hK : HK h) (hY : HY h) (hH : HL h L cnt T l n) (hn : n ≤ 12) (hb : ∀ k, n ≤ k → k < 12 → ¬ bit set k) (hi : i < cnt) :
    Ex MX3_hasEdgeOf (d + 1) [.inr 329, .inl set, .inl (i : Int)] h 0 0 (fun v g => (∃ z, v = some (.inl z) ∧ bz z (∃ k, k < n ∧ bit set k ∧ ed (l k) 0 (T i))) ∧ g = h) := by
  obtain ⟨k1, k2, k3, k4, k5, k6⟩ := id hK
  refine Ex_of_V tX3_hasEdgeOf (Nat.le_of_ble_eq_true rfl) ?_
  apply bX3_hasEdgeOf_0
  have key : ∀ (t k : Nat), k + t = 12 → (∀ j, j < k → j < n → bit set j → ¬ ed (l j) 0 (T i)) → V MX3_hasEdgeOf (d + 1) 2 [some (.inr 329), some (.inl set), some (.inl (i : Int)), some (.inl (k : Int))] [] h 0 0 (fun v g => (∃ z, v = some (.inl z) ∧ bz z (∃ k, k < n ∧ bit set k ∧ ed (l k) 0 (T i))) ∧ g = h) := by
    intro t
    induction t with
    | zero =>
      intro k hk hno
      obtain rfl : k = 12 := by omega
      apply bX3_hasEdgeOf_2
      case q1 => intro _; exact ⟨⟨0, rfl, bz_0 (fun ⟨j, a, b, c⟩ => hno j (by omega) a b c)⟩, rfl⟩
      all_goals first
        | exact k1
        | (intro q; exact absurd (by decide) q)
    | succ t ih =>
      intro k hk hno
      have hj1 : (k : Int) + 1 = ((k + 1 : Nat) : Int) := by omega
      apply bX3_hasEdgeOf_2
      case q1 => intro q; omega
      case r1 => intros; exact ⟨by omega, by omega⟩
      case k1 =>
        intro _ q
        rw [hj1]
        refine ih (k + 1) (by omega) (fun j hj a b => ?_)
        by_cases z : j = k
        · subst z; exact absurd b q
        · exact hno j (by omega) a b
      case e1 =>
        intro _ q
        have hkn : k < n := by
          by_cases z : k < n
          · exact z
          · exact absurd q (hb k (by omega) (by omega))
        refine Ex.mono (eX3_isEdge hK hY hH hn hkn hi) ?_
        rintro v g ⟨⟨z, rfl, z1, z2⟩, rfl⟩
        show V MX3_hasEdgeOf (d + 1) 24 _ [.inl z] g 0 0 _
        apply bX3_hasEdgeOf_24
        case r1 => intros; exact ⟨by omega, by omega⟩
        case k1 =>
          intro z0
          rw [hj1]
          refine ih (k + 1) (by omega) (fun j hj a b => ?_)
          by_cases y : j = k
          · subst y; intro w; have := z2.mpr w; omega
          · exact hno j (by omega) a b
        case q1 => intro z0; exact ⟨⟨1, rfl, bz_1 ⟨k, hkn, q, z2.mp (by omega)⟩⟩, rfl⟩
      all_goals first
        | exact k1
        | (intros; omega)
  have h9 := key 12 0 (by omega) (fun j hj => absurd hj (Nat.not_lt_zero _))
  exact h9
theorem eX3_hasEdgeAt {d k t : Nat} (hK : HK h) (hY : HY h) (hH : HL h L cnt T l n) (hn : n ≤ 12) (hk : k < n) (ht : t ≤ L) :
    Ex MX3_hasEdgeAt (d + 1) [.inr 329, .inl (k : Int), .inl (t : Int)] h 0 0 (fun v g => (∃ z, v = some (.inl z) ∧ bz z (ed (l k) 0 t)) ∧ g = h) := by
  obtain ⟨k1, k2, k3, k4, k5, k6⟩ := id hK
  obtain ⟨h1, h2, h3, h4, h5, h6, h7, h8, h9, h10⟩ := id hH
  refine Ex_of_V tX3_hasEdgeAt (Nat.le_of_ble_eq_true rfl) ?_
  apply bX3_hasEdgeAt_0
  have key : ∀ (m i : Nat), i + m = cnt → (∀ j, j < i → T j ≠ t) → V MX3_hasEdgeAt (d + 1) 2 [some (.inr 329), some (.inl (k : Int)), some (.inl (t : Int)), some (.inl (i : Int))] [] h 0 0 (fun v g => (∃ z, v = some (.inl z) ∧ bz z (ed (l k) 0 t)) ∧ g = h) := by
    intro m
    induction m with
    | zero =>
      intro i hi hno
      obtain rfl : i = cnt := by omega
      apply bX3_hasEdgeAt_2
      case q1 => intro _; exact ⟨⟨0, rfl, bz_0 (fun q => by obtain ⟨j, a, b⟩ := hH.at hk ht q; exact hno j a b)⟩, rfl⟩
      all_goals first
        | exact k1
        | (rw [k2, k4]; done)
        | (intro q; exact absurd (by rw [h1]; exact Int.le_refl _) q)
    | succ m ih =>
      intro i hi hno
      have hT : jX h (jP h 329 2) ((((i : Nat) : Int)).toNat) = (T i : Int) := by rw [k2, Int.toNat_natCast]; exact h7 i (by omega)
      apply bX3_hasEdgeAt_2
      case q1 => rw [h1]; intro q; omega
      case r1 => intros; exact ⟨by omega, by omega⟩
      case k1 =>
        rw [hT]
        intro _ q
        rw [show (i : Int) + 1 = ((i + 1 : Nat) : Int) by omega]
        refine ih (i + 1) (by omega) (fun j hj => ?_)
        by_cases z : j = i
        · subst z; omega
        · exact hno j (by omega)
      case e1 =>
        rw [hT]
        intro _ q
        obtain rfl : T i = t := by omega
        refine Ex.mono (eX3_isEdge hK hY hH hn hk (by omega)) ?_
        rintro v g ⟨⟨z, rfl, z1, z2⟩, rfl⟩
        show V MX3_hasEdgeAt (d + 1) 27 _ [.inl z] g 0 0 _
        apply bX3_hasEdgeAt_27
        case q1 => exact ⟨⟨z, rfl, z1, z2⟩, rfl⟩
        case z1 => exact z1
      all_goals first
        | exact k1
        | (rw [k2, k4]; done)
        | (intros; omega)
        | (intros; rw [k2, k4]; refine Int.lt_of_le_of_lt (b := 60) ?_ (by decide); omega)
  have h9 := key cnt 0 (by omega) (fun j hj => absurd hj (Nat.not_lt_zero _))
  exact h9
/-- b follows a by this delay -/
def flw (la lb : Nat → Int) (L d : Nat) : Prop := (∃ t, t + d ≤ L ∧ ed la 0 t) ∧ ∀ t, t + d ≤ L → ed la 0 t → ed lb 0 (t + d)
theorem eX3_follows {d a b dl : Nat} (hK : HK h) (hY : HY h) (hH : HL h L cnt T l n) (hn : n ≤ 12) (ha : a < n) (hb : b < n) (hd : dl ≤ 50) :
    Ex MX3_follows (d + 2) [.inr 329, .inl (a : Int), .inl (b : Int), .inl (dl : Int)] h 0 0 (fun v g => (∃ z, v = some (.inl z) ∧ bz z (flw (l a) (l b) L dl)) ∧ g = h) := by
  obtain ⟨k1, k2, k3, k4, k5, k6⟩ := id hK
  obtain ⟨h1, h2, h3, h4, h5, h6, h7, h8, h9, h10⟩ := id hH
  refine Ex_of_V tX3_follows (Nat.le_of_ble_eq_true rfl) ?_
  apply bX3_follows_0
  have key : ∀ (m i : Nat) (any : Int), i + m = cnt → bz any (∃ j, j < i ∧ T j + dl ≤ L ∧ ed (l a) 0 (T j)) → (∀ j, j < i → T j + dl ≤ L → ed (l a) 0 (T j) → ed (l b) 0 (T j + dl)) → V MX3_follows (d + 2) 6 [some (.inr 329), some (.inl (a : Int)), some (.inl (b : Int)), some (.inl (dl : Int)), some (.inl any), some (.inl (i : Int))] [] h 0 0 (fun v g => (∃ z, v = some (.inl z) ∧ bz z (flw (l a) (l b) L dl)) ∧ g = h) := by
    intro m
    induction m with
    | zero =>
      intro i any hi hany hall
      obtain rfl : i = cnt := by omega
      apply bX3_follows_6
      case q1 =>
        intro _
        refine ⟨⟨any, rfl, hany.1, hany.2.trans ⟨fun ⟨j, x1, x2, x3⟩ => ⟨⟨T j, x2, x3⟩, fun t t1 t2 => ?_⟩, fun ⟨⟨t, t1, t2⟩, _⟩ => ?_⟩⟩, rfl⟩
        · obtain ⟨j2, y1, y2⟩ := hH.at ha (by omega) t2
          subst y2
          exact hall j2 y1 t1 t2
        · obtain ⟨j2, y1, y2⟩ := hH.at ha (by omega) t2
          subst y2
          exact ⟨j2, y1, t1, t2⟩
      case z1 => intro _; exact hany.1
      all_goals first
        | exact k1
        | (rw [k2, k4]; done)
        | (intro q; exact absurd (by rw [h1]; exact Int.le_refl _) q)
    | succ m ih =>
      intro i any hi hany hall
      have hTL := h9 i (by omega)
      have hT : jX h (jP h 329 2) ((((i : Nat) : Int)).toNat) = (T i : Int) := by rw [k2, Int.toNat_natCast]; exact h7 i (by omega)
      have hj1 : (i : Int) + 1 = ((i + 1 : Nat) : Int) := by omega
      -- this moment does not count
      have skip : (T i + dl ≤ L → ¬ ed (l a) 0 (T i)) → V MX3_follows (d + 2) 6 [some (.inr 329), some (.inl (a : Int)), some (.inl (b : Int)), some (.inl (dl : Int)), some (.inl any), some (.inl ((i + 1 : Nat) : Int))] [] h 0 0 (fun v g => (∃ z, v = some (.inl z) ∧ bz z (flw (l a) (l b) L dl)) ∧ g = h) := by
        intro hno
        refine ih (i + 1) any (by omega) ⟨hany.1, hany.2.trans ⟨fun ⟨j, x1, x2, x3⟩ => ⟨j, by omega, x2, x3⟩, fun ⟨j, x1, x2, x3⟩ => ?_⟩⟩ (fun j hj x2 x3 => ?_)
        · by_cases z : j = i
          · subst z; exact absurd x3 (hno x2)
          · exact ⟨j, by omega, x2, x3⟩
        · by_cases z : j = i
          · subst z; exact absurd x3 (hno x2)
          · exact hall j (by omega) x2 x3
      apply bX3_follows_6
      case q1 => rw [h1]; intro q; omega
      case z1 => intro _; exact hany.1
      case r1 => rw [hT]; intros; exact ⟨by omega, by omega⟩
      case r2 => intros; exact ⟨by omega, by omega⟩
      case k1 =>
        rw [hT, h2]
        intro _ q
        rw [hj1]
        exact skip (fun z => by omega)
      case e1 =>
        rw [hT, h2]
        intro _ q
        have hle : T i + dl ≤ L := by omega
        refine Ex.mono (eX3_isEdge hK hY hH hn ha (by omega)) ?_
        rintro v g ⟨⟨z, rfl, z1, z2⟩, rfl⟩
        show V MX3_follows (d + 2) 39 _ [.inl z] g 0 0 _
        apply bX3_follows_39
        case r1 => intros; exact ⟨by omega, by omega⟩
        case r2 => rw [hT]; intros; exact ⟨by omega, by omega⟩
        case k1 =>
          intro z0
          rw [hj1]
          exact skip (fun _ w => by have := z2.mpr w; omega)
        case e1 =>
          rw [hT]
          intro z0
          have hea := z2.mp (by omega)
          rw [show (T i : Int) + (dl : Int) = ((T i + dl : Nat) : Int) by omega]
          refine Ex.mono (eX3_hasEdgeAt hK hY hH hn hb hle) ?_
          rintro v g2 ⟨⟨y, rfl, y1, y2⟩, rfl⟩
          show V MX3_follows (d + 2) 56 _ [.inl y] g2 0 0 _
          apply bX3_follows_56
          case r1 => intros; exact ⟨by omega, by omega⟩
          case k1 =>
            intro y0
            have heb := y2.mp (by omega)
            rw [hj1]
            refine ih (i + 1) 1 (by omega) (bz_1 ⟨i, by omega, hle, hea⟩) (fun j hj x2 x3 => ?_)
            by_cases w : j = i
            · subst w; exact heb
            · exact hall j (by omega) x2 x3
          case q1 =>
            intro y0
            exact ⟨⟨0, rfl, bz_0 (fun w => by have := y2.mpr (w.2 (T i) hle hea); omega)⟩, rfl⟩
        all_goals first
          | exact k1
          | (rw [k2, k4]; done)
          | (intros; omega)
          | (intros; rw [k2, k4]; refine Int.lt_of_le_of_lt (b := 60) ?_ (by decide); omega)
      all_goals first
        | exact k1
        | (rw [k2, k4]; done)
        | (intros; omega)
        | (intros; rw [k2, k4]; refine Int.lt_of_le_of_lt (b := 60) ?_ (by decide); omega)
  have h9 := key cnt 0 0 (by omega) (bz_0 (fun ⟨j, x1, _⟩ => absurd x1 (Nat.not_lt_zero _))) (fun j hj => absurd hj (Nat.not_lt_zero _))
  exact h9
end KW
