/-! ===== model: an expression, step by step ===== -/
section MQ2
variable {h g g1 : jH} {b : Nat → Int} {c : Nat} {node wi sn code cm cw ci : Nat → Int} {n nw nd ns D d p t m L : Nat} {W : List Int} {Q : Option jA → jH → Prop}
theorem eX9_due1 (hM : MK h) : Ex MX9_due d [.inr 476, .inl 1] h 0 0 (fun r g => r = none ∧ g = h) := by
  refine Ex.mono (eX9_due hM) ?_
  rintro r g ⟨rfl, hg⟩
  exact ⟨rfl, hg.trans (if_neg (fun y => absurd y.1 (by decide)))⟩
theorem eX9_duef {x : Int} (hM : MK h) (hf : jI h 476 20 ≠ -9) : Ex MX9_due d [.inr 476, .inl x] h 0 0 (fun r g => r = none ∧ g = h) := by
  refine Ex.mono (eX9_due hM) ?_
  rintro r g ⟨rfl, hg⟩
  exact ⟨rfl, hg.trans (if_neg (fun y => hf y.2))⟩
theorem eX9_due0 (hM : MK h) (hf : jI h 476 20 = -9) : Ex MX9_due d [.inr 476, .inl 0] h 0 0 (fun r g => r = none ∧ g = jsI h 476 20 (jI h 476 17)) := by
  refine Ex.mono (eX9_due hM) ?_
  rintro r g ⟨rfl, hg⟩
  exact ⟨rfl, hg.trans (if_pos ⟨rfl, hf⟩)⟩
/-- frames while an expression is read -/
def PEx (a : Nat) : Prop := 490 ≤ a ∧ a ≤ 492
def FEx (k : Nat) : Prop := (16 ≤ k ∧ k ≤ 20) ∨ (33 ≤ k ∧ k ≤ 35)
def EF (g1 : jH) (nd : Nat) (g : jH) : Prop := MF PEx FEx g1 g ∧ (∀ k, k < 40 * nd → jX g 490 k = jX g1 490 k) ∧ ∀ k, k < nd → jX g 491 k = jX g1 491 k
theorem EF.rf : EF h nd h := ⟨MF.rf, fun _ _ => rfl, fun _ _ => rfl⟩
theorem EF.sI {k : Nat} {v : Int} (hE : EF g1 nd g) (hk : FEx k) : EF g1 nd (jsI g 476 k v) := ⟨hE.1.trans (MF.sI hk), hE.2.1, hE.2.2⟩
theorem EF.nu (hE : EF g1 nd g) (f : MF nuP nuE g h) : EF g1 nd h :=
  ⟨hE.1.trans (f.wide (fun a ha => ha.elim) (fun k hk => by unfold nuE at hk; unfold FEx; omega)), fun k hk => by rw [f.2.2.2.2.1 490 (by unfold nuP; exact id)]; exact hE.2.1 k hk, fun k hk => by rw [f.2.2.2.2.1 491 (by unfold nuP; exact id)]; exact hE.2.2 k hk⟩
theorem EF.sX {k : Nat} {v : Int} {a : Nat} (hE : EF g1 nd g) (ha : (a = 490 ∧ 40 * nd ≤ k) ∨ (a = 491 ∧ nd ≤ k) ∨ a = 492) : EF g1 nd (jsX g a k v) := by
  refine ⟨hE.1.trans (MF.sX (by unfold PEx; omega)), fun j hj => ?_, fun j hj => ?_⟩
  · rw [jX_sX, if_neg (by omega)]; exact hE.2.1 j hj
  · rw [jX_sX, if_neg (by omega)]; exact hE.2.2 j hj
theorem EF.txm (hE : EF g1 nd g) (hT : TXM g1 b c) : TXM g b c := hT.mf hE.1 (by unfold PEx; omega) (by unfold FEx; omega)
theorem EF.ndr (hE : EF g1 nd g) (hN : NDR g1 node n wi sn ns) : NDR g node n wi sn ns := hN.mf hE.1 (by unfold PEx; omega) (by unfold PEx; omega) (by unfold PEx; omega) (by unfold FEx; omega) (by unfold FEx; omega)
theorem EF.n24 (hE : EF g1 nd g) (h24 : jI g1 476 24 = (nd : Int)) : jI g 476 24 = (nd : Int) := by rw [hE.1.2.2.2.2.2.2 24 (by unfold FEx; omega)]; exact h24
/-- the stack of what waits -/
def WR (g : jH) : List Int → Prop
  | [] => True
  | x :: r => jX g 492 r.length = x ∧ WR g r
theorem WR.eq (hW : WR g W) (he : jX h 492 = jX g 492) : WR h W := by
  induction W with
  | nil => trivial
  | cons x r ih => exact ⟨by rw [he]; exact hW.1, ih hW.2⟩
theorem WR.up {k : Nat} {v : Int} (hW : WR g W) (hk : W.length ≤ k) : WR (jsX g 492 k v) W := by
  induction W with
  | nil => trivial
  | cons x r ih =>
    have hk' : r.length + 1 ≤ k := hk
    exact ⟨by rw [jX_sX, if_neg (by omega)]; exact hW.1, ih hW.2 (by omega)⟩
/-- the code emitted so far -/
def CDR (g : jH) (nd L : Nat) (cw ci : Nat → Int) : Prop := jX g 491 nd = (L : Int) ∧ ∀ j, j < L → jX g 490 (40 * nd + 2 * j) = cw j ∧ jX g 490 (40 * nd + 2 * j + 1) = ci j
def EXS (g1 : jH) (nd : Nat) (g : jH) (b : Nat → Int) (c p : Nat) (W : List Int) (t m L : Nat) (cw ci : Nat → Int) : Prop :=
  EF g1 nd g ∧ TXQ g b c p ∧ jI g 476 20 = -9 ∧ jI g 476 33 = (W.length : Int) ∧ WR g W ∧ jI g 476 34 = (t : Int) ∧ jI g 476 35 = (m : Int) ∧ CDR g nd L cw ci
theorem EXS.nx {q : Nat} (hE : EXS g1 nd g b c p W t m L cw ci) (f : MF nuP nuF g h) (hq : TXQ h b c q) : EXS g1 nd h b c q W t m L cw ci := by
  obtain ⟨e1, e2, e3, e4, e5, e6, e7, e8⟩ := hE
  have e : ∀ k, 19 < k → jI h 476 k = jI g 476 k := fun k hk => f.2.2.2.2.2.2 k (by unfold nuF; omega)
  have x : ∀ a, jX h a = jX g a := fun a => f.2.2.2.2.1 a (by unfold nuP; exact id)
  refine ⟨e1.nu (nu_wide f), hq, by rw [e 20 (by omega)]; exact e3, by rw [e 33 (by omega)]; exact e4, e5.eq (x 492), by rw [e 34 (by omega)]; exact e6, by rw [e 35 (by omega)]; exact e7, ?_⟩
  unfold CDR
  rw [x 490, x 491]
  exact e8
def bBT (t m L : Nat) (W : List Int) : Prop := t ≤ 6 ∧ m ≤ 6 ∧ W.length ≤ m + t ∧ L + W.length ≤ 2 * t + m
def bA (t m L : Nat) (W : List Int) : Prop := t ≤ 6 ∧ m ≤ 6 ∧ W.length + 1 ≤ m + t ∧ L + W.length + 1 ≤ 2 * t + m
/-- from the begin of a term; behind a term; at a fault; at the end -/
def MT (d : Nat) (g1 : jH) (nd : Nat) (b : Nat → Int) (c : Nat) (Q : Option jA → jH → Prop) (p : Nat) (W : List Int) (t m L : Nat) (cw ci : Nat → Int) : Prop :=
  ∀ g u1, bBT t m L W → EXS g1 nd g b c p W t m L cw ci → V MX9_beginsTerm (d + 5) 0 [some (.inr 476), u1] [] g 0 0 (fun v g2 => V MX9_readsExpression (d + 6) 44 [some (.inr 476), some (.inl 1)] (v.toList ++ []) g2 0 0 Q)
def MA (d : Nat) (g1 : jH) (nd : Nat) (b : Nat → Int) (c : Nat) (Q : Option jA → jH → Prop) (p : Nat) (W : List Int) (t m L : Nat) (cw ci : Nat → Int) : Prop :=
  ∀ g i1, bA t m L W → EXS g1 nd g b c p W t m L cw ci → V MX9_readsExpression (d + 6) 57 [some (.inr 476), some (.inl i1)] [] g 0 0 Q
def MQF (g1 : jH) (nd : Nat) (Q : Option jA → jH → Prop) (f : Nat) : Prop := ∀ g, EF g1 nd g → jI g 476 20 = (f : Int) → Q none g
def wt : List Int → Nat → (Nat → Int) → (Nat → Int) → List Int × Nat × (Nat → Int) × (Nat → Int)
  | [], L, cw, ci => ([], L, cw, ci)
  | x :: r, L, cw, ci => if x = 33 then wt r (L + 1) (up cw L 2) (up ci L 0) else if x = 40 then (x :: r, L, cw, ci) else (r, L + 1, up cw L 3, up ci L x)
/-- behind a whole term: what waited for it is done -/
def MW (d : Nat) (g1 : jH) (nd : Nat) (b : Nat → Int) (c : Nat) (Q : Option jA → jH → Prop) (p : Nat) (W : List Int) (t m L : Nat) (cw ci : Nat → Int) : Prop :=
  MA d g1 nd b c Q p (wt W L cw ci).1 t m (wt W L cw ci).2.1 (wt W L cw ci).2.2.1 (wt W L cw ci).2.2.2
theorem MW_not : MW d g1 nd b c Q p (33 :: W) t m L cw ci = MW d g1 nd b c Q p W t m (L + 1) (up cw L 2) (up ci L 0) := rfl
theorem MW_par (hW : W = [] ∨ ∃ r, W = 40 :: r) : MW d g1 nd b c Q p W t m L cw ci = MA d g1 nd b c Q p W t m L cw ci := by
  rcases hW with rfl | ⟨r, rfl⟩ <;> rfl
theorem MW_op {x : Int} (h1 : x ≠ 33) (h2 : x ≠ 40) : MW d g1 nd b c Q p (x :: W) t m L cw ci = MA d g1 nd b c Q p W t m (L + 1) (up cw L 3) (up ci L x) := by
  unfold MW
  have : wt (x :: W) L cw ci = (W, L + 1, up cw L 3, up ci L x) := by
    conv => lhs; unfold wt
    rw [if_neg h1, if_neg h2]
  rw [this]
theorem bA_wt : ∀ (W : List Int) (L : Nat) (cw ci : Nat → Int), bA t m L W → bA t m (wt W L cw ci).2.1 (wt W L cw ci).1
  | [], L, cw, ci, q => q
  | x :: r, L, cw, ci, q => by
    obtain ⟨q1, q2, q3, q4⟩ := q
    have e : (x :: r).length = r.length + 1 := rfl
    rw [e] at q3 q4
    unfold wt
    by_cases z : x = 33
    · rw [if_pos z]; exact bA_wt r (L + 1) _ _ ⟨q1, q2, by omega, by omega⟩
    · rw [if_neg z]
      by_cases z2 : x = 40
      · rw [if_pos z2]; exact ⟨q1, q2, q3, q4⟩
      · rw [if_neg z2]; exact ⟨q1, q2, by show r.length + 1 ≤ _; omega, by show L + 1 + r.length + 1 ≤ _; omega⟩
theorem eX9_emits {k v : Int} (hT : TXM g1 b c) (h24 : jI g1 476 24 = (nd : Int)) (hnd : nd ≤ 3) (hL : L ≤ 18) (hE : EXS g1 nd g b c p W t m L cw ci) :
    Ex MX9_emits d [.inr 476, .inl k, .inl v] g 0 0 (fun r h => r = none ∧ EXS g1 nd h b c p W t m (L + 1) (up cw L k) (up ci L v)) := by
  obtain ⟨e1, e2, e3, e4, e5, e6, e7, e8, e9⟩ := hE
  have hM := (e1.txm hT).1
  have n24 := e1.n24 h24
  have eL : jX g (jP g 476 29) ((((nd : Nat) : Int)).toNat) = (L : Int) := by rw [hM.p29, Int.toNat_natCast]; exact e8
  have t1 : (40 * (nd : Int) + 2 * (L : Int)).toNat = 40 * nd + 2 * L := by omega
  have t2 : (40 * (nd : Int) + 2 * (L : Int) + 1).toNat = 40 * nd + 2 * L + 1 := by omega
  have eL2 : jX (jsX (jsX g 490 (40 * nd + 2 * L) k) 490 (40 * nd + 2 * L + 1) v) 491 nd = (L : Int) := by
    rw [jX_sX, if_neg (by omega), jX_sX, if_neg (by omega)]; exact e8
  refine Ex_of_V tX9_emits (Nat.le_of_ble_eq_true rfl) ?_
  apply bX9_emits_0
  case q1 =>
    rw [n24, eL, hM.p28, hM.p29, t1, t2, Int.toNat_natCast, eL2]
    refine ⟨rfl, ((e1.sX (Or.inl ⟨rfl, by omega⟩)).sX (Or.inl ⟨rfl, by omega⟩)).sX (Or.inr (Or.inl ⟨rfl, Nat.le_refl _⟩)), e2, e3, e4, e5.eq ?_, e6, e7, ?_, fun j hj => ?_⟩
    · funext i
      rw [jX_sX, if_neg (by omega), jX_sX, if_neg (by omega), jX_sX, if_neg (by omega)]
    · rw [jX_sX, if_pos ⟨rfl, rfl⟩]; omega
    · refine ⟨?_, ?_⟩
      · rw [jX_sX, if_neg (show ¬ (490 = 491 ∧ 40 * nd + 2 * j = nd) by omega), jX_sX, if_neg (show ¬ (490 = 490 ∧ 40 * nd + 2 * j = 40 * nd + 2 * L + 1) by omega), jX_sX]
        by_cases z : j = L
        · rw [if_pos ⟨rfl, by omega⟩, z, up_s]
        · rw [if_neg (by omega), up_o z]; exact (e9 j (by omega)).1
      · rw [jX_sX, if_neg (show ¬ (490 = 491 ∧ 40 * nd + 2 * j + 1 = nd) by omega), jX_sX]
        by_cases z : j = L
        · rw [if_pos ⟨rfl, by omega⟩, z, up_s]
        · rw [if_neg (by omega), jX_sX, if_neg (by omega), up_o z]; exact (e9 j (by omega)).2
  case r8 =>
    rw [n24, eL, hM.p28, hM.p29, t1, t2, Int.toNat_natCast, eL2]
    exact ⟨by omega, by omega⟩
  all_goals (try rw [n24])
  all_goals (try rw [eL])
  all_goals first
    | exact hM.x
    | (rw [hM.p29, hM.s491]; done)
    | (rw [hM.p28, hM.s490]; done)
    | exact ⟨by omega, by omega⟩
    | omega
    | (rw [hM.p29, hM.s491]; refine Int.lt_of_le_of_lt (b := 3) ?_ (by decide); omega)
    | (rw [hM.p28, hM.s490]; refine Int.lt_of_le_of_lt (b := 159) ?_ (by decide); omega)
theorem eX9_waitsFor {x : Int} (hT : TXM g1 b c) (hW : W.length ≤ 15) (hE : EXS g1 nd g b c p W t m L cw ci) :
    Ex MX9_waitsFor d [.inr 476, .inl x] g 0 0 (fun r h => r = none ∧ EXS g1 nd h b c p (x :: W) t m L cw ci) := by
  obtain ⟨e1, e2, e3, e4, e5, e6, e7, e8, e9⟩ := hE
  have hM := (e1.txm hT).1
  refine Ex_of_V tX9_waitsFor (Nat.le_of_ble_eq_true rfl) ?_
  apply bX9_waitsFor_0
  case q1 =>
    rw [e4, hM.p32, Int.toNat_natCast]
    have ee : EF g1 nd (jsI (jsX g 492 W.length x) 476 33 ((W.length : Int) + 1)) := (e1.sX (Or.inr (Or.inr rfl))).sI (by unfold FEx; omega)
    refine ⟨rfl, ee, ⟨e2.1, ?_, ?_, ?_, fun q => ?_⟩, ?_, ?_, ⟨?_, ?_⟩, ?_, ?_, ?_, fun j hj => ?_⟩
    · rw [jI_sI, if_neg (by omega)]; exact e2.2.1
    · rw [jI_sI, if_neg (by omega)]; exact e2.2.2.1
    · rw [jI_sI, if_neg (by omega)]; exact e2.2.2.2.1
    · rw [jI_sI, if_neg (by omega)]; exact e2.2.2.2.2 q
    · rw [jI_sI, if_neg (by omega)]; exact e3
    · rw [jI_sI, if_pos ⟨rfl, rfl⟩]; rfl
    · rw [jX_sI, jX_sX, if_pos ⟨rfl, rfl⟩]
    · exact (e5.up (k := W.length) (v := x) (Nat.le_refl _)).eq rfl
    · rw [jI_sI, if_neg (by omega)]; exact e6
    · rw [jI_sI, if_neg (by omega)]; exact e7
    · rw [jX_sI, jX_sX, if_neg (by omega)]; exact e8
    · rw [jX_sI, jX_sX, if_neg (by omega), jX_sX, if_neg (by omega)]; exact e9 j hj
  all_goals (try rw [e4])
  all_goals first
    | exact hM.x
    | (rw [hM.p32, hM.s492]; done)
    | exact ⟨by omega, by omega⟩
    | omega
    | (rw [hM.p32, hM.s492]; refine Int.lt_of_le_of_lt (b := 15) ?_ (by decide); omega)
/-- fields of the state that change alone -/
theorem EXS.sI {k : Nat} {v : Int} (hE : EXS g1 nd g b c p W t m L cw ci) (hk : k = 34 ∨ k = 35) : EXS g1 nd (jsI g 476 k v) b c p W (if k = 34 then v.toNat else t) (if k = 35 then v.toNat else m) L cw ci ∨ ¬ 0 ≤ v := by
  by_cases hv : 0 ≤ v
  · left
    obtain ⟨e1, e2, e3, e4, e5, e6, e7, e8⟩ := hE
    refine ⟨e1.sI (by unfold FEx; omega), ⟨e2.1, ?_, ?_, ?_, fun q => ?_⟩, ?_, ?_, e5.eq rfl, ?_, ?_, e8⟩
    · rw [jI_sI, if_neg (by omega)]; exact e2.2.1
    · rw [jI_sI, if_neg (by omega)]; exact e2.2.2.1
    · rw [jI_sI, if_neg (by omega)]; exact e2.2.2.2.1
    · rw [jI_sI, if_neg (by omega)]; exact e2.2.2.2.2 q
    · rw [jI_sI, if_neg (by omega)]; exact e3
    · rw [jI_sI, if_neg (by omega)]; exact e4
    · rw [jI_sI]
      rcases hk with rfl | rfl
      · rw [if_pos ⟨rfl, rfl⟩, if_pos rfl]; omega
      · rw [if_neg (by omega), if_neg (by omega)]; exact e6
    · rw [jI_sI]
      rcases hk with rfl | rfl
      · rw [if_neg (by omega), if_neg (by omega)]; exact e7
      · rw [if_pos ⟨rfl, rfl⟩, if_pos rfl]; omega
  · exact Or.inr hv
theorem EXS.t1 (hE : EXS g1 nd g b c p W t m L cw ci) : EXS g1 nd (jsI g 476 34 ((t : Int) + 1)) b c p W (t + 1) m L cw ci := by
  rcases hE.sI (k := 34) (v := (t : Int) + 1) (Or.inl rfl) with z | z
  · rw [if_pos rfl, if_neg (by decide), show ((t : Int) + 1).toNat = t + 1 by omega] at z; exact z
  · omega
theorem EXS.m1 (hE : EXS g1 nd g b c p W t m L cw ci) : EXS g1 nd (jsI g 476 35 ((m : Int) + 1)) b c p W t (m + 1) L cw ci := by
  rcases hE.sI (k := 35) (v := (m : Int) + 1) (Or.inr rfl) with z | z
  · rw [if_neg (by decide), if_pos rfl, show ((m : Int) + 1).toNat = m + 1 by omega] at z; exact z
  · omega
theorem EXS.pop {x : Int} (hE : EXS g1 nd g b c p (x :: W) t m L cw ci) : EXS g1 nd (jsI g 476 33 (W.length : Int)) b c p W t m L cw ci := by
  obtain ⟨e1, e2, e3, e4, e5, e6, e7, e8⟩ := hE
  refine ⟨e1.sI (by unfold FEx; omega), ⟨e2.1, ?_, ?_, ?_, fun q => ?_⟩, ?_, ?_, e5.2.eq rfl, ?_, ?_, e8⟩
  · rw [jI_sI, if_neg (by omega)]; exact e2.2.1
  · rw [jI_sI, if_neg (by omega)]; exact e2.2.2.1
  · rw [jI_sI, if_neg (by omega)]; exact e2.2.2.2.1
  · rw [jI_sI, if_neg (by omega)]; exact e2.2.2.2.2 q
  · rw [jI_sI, if_neg (by omega)]; exact e3
  · rw [jI_sI, if_pos ⟨rfl, rfl⟩]
  · rw [jI_sI, if_neg (by omega)]; exact e6
  · rw [jI_sI, if_neg (by omega)]; exact e7
theorem eX9_wholeTerm (hT : TXM g1 b c) (h24 : jI g1 476 24 = (nd : Int)) (hnd : nd ≤ 3) (hb : bA t m L W) (hE : EXS g1 nd g b c p W t m L cw ci) :
    Ex MX9_wholeTerm (d + 1) [.inr 476] g 0 0 (fun r h => r = none ∧ EXS g1 nd h b c p (wt W L cw ci).1 t m (wt W L cw ci).2.1 (wt W L cw ci).2.2.1 (wt W L cw ci).2.2.2) := by
  refine Ex_of_V tX9_wholeTerm (Nat.le_of_ble_eq_true rfl) ?_
  have key : ∀ (W : List Int) (L : Nat) (cw ci : Nat → Int) (g : jH), bA t m L W → EXS g1 nd g b c p W t m L cw ci → V MX9_wholeTerm (d + 1) 0 [some (.inr 476)] [] g 0 0 (fun r h => r = none ∧ EXS g1 nd h b c p (wt W L cw ci).1 t m (wt W L cw ci).2.1 (wt W L cw ci).2.2.1 (wt W L cw ci).2.2.2) := by
    intro W
    induction W with
    | nil =>
      intro L cw ci g hb hE
      have hM := (hE.1.txm hT).1
      have e33 : jI g 476 33 = 0 := hE.2.2.2.1
      apply bX9_wholeTerm_0
      case q1 => intro _ _; exact ⟨rfl, hE⟩
      all_goals (try rw [e33])
      all_goals first
        | exact hM.x
        | (rw [hM.p32, hM.s492]; done)
        | (intro z; exact absurd (Int.le_refl 0) z)
        | (intro _ z; exact absurd (Int.le_refl 0) z)
        | (intros; exact ⟨by omega, by omega⟩)
    | cons x r ih =>
      intro L cw ci g hb hE
      have hM := (hE.1.txm hT).1
      have elen : (x :: r).length = r.length + 1 := rfl
      have e33 : jI g 476 33 = (r.length : Int) + 1 := by have := hE.2.2.2.1; rw [elen] at this; omega
      have ex : jX g (jP g 476 32) (((r.length : Int) + 1 - 1).toNat) = x := by rw [hM.p32, Int.add_sub_cancel, Int.toNat_natCast]; exact hE.2.2.2.2.1.1
      obtain ⟨q1, q2, q3, q4⟩ := id hb
      rw [elen] at q3 q4
      have hpop := hE.pop
      apply bX9_wholeTerm_0
      case q1 => rw [e33]; intro z; omega
      case q2 => rw [e33]; intro z; omega
      case e1 => rw [e33]; intro z; omega
      case q3 => rw [e33]; intro _ _ z; omega
      case q4 =>
        rw [e33, ex]
        intro _ y _ y2
        have e : wt (x :: r) L cw ci = (x :: r, L, cw, ci) := by
          conv => lhs; unfold wt
          rw [if_neg y, if_pos y2]
        rw [e]
        exact ⟨rfl, hE⟩
      case e2 =>
        rw [e33, ex, Int.add_sub_cancel]
        intro _ y _ y2
        have e : wt (x :: r) L cw ci = (r, L + 1, up cw L 3, up ci L x) := by
          conv => lhs; unfold wt
          rw [if_neg y, if_neg y2]
        rw [e]
        refine Ex.mono (eX9_emits hT h24 hnd (by omega) hpop) ?_
        rintro v h2 ⟨rfl, hE2⟩
        apply bX9_wholeTerm_89
        exact ⟨rfl, hE2⟩
      case e3 =>
        rw [e33, ex, Int.add_sub_cancel]
        intro _ y
        have e : wt (x :: r) L cw ci = wt r (L + 1) (up cw L 2) (up ci L 0) := by
          conv => lhs; unfold wt
          rw [if_pos y]
        rw [e]
        refine Ex.mono (eX9_emits hT h24 hnd (by omega) hpop) ?_
        rintro v h2 ⟨rfl, hE2⟩
        apply bX9_wholeTerm_39
        exact ih (L + 1) _ _ h2 ⟨q1, q2, by omega, by omega⟩ hE2
      all_goals (try rw [e33])
      all_goals first
        | exact hM.x
        | (rw [hM.p32, hM.s492]; done)
        | (intros; exact ⟨by omega, by omega⟩)
        | (intros; omega)
        | (intros; rw [hM.p32, hM.s492]; refine Int.lt_of_le_of_lt (b := 15) ?_ (by decide); omega)
  exact key W L cw ci g hb hE
end MQ2
