/-! ===== THE MACHINE MADE SMALL: ints as Int, references as small numbers, the heap as six functions; 'V' is W over that picture ===== -/
section JA
def jR (z : Int) : Prop := -2147483648 ≤ z ∧ z < 2147483648
theorem jR_toInt {z : Int} (h : jR z) : (Int32.ofInt z).toInt = z :=
  Int32.toInt_ofInt_of_le (by have := h.1; omega) (by have := h.2; omega)
theorem jR_of (x : Int32) : jR x.toInt := ⟨by have := Int32.le_toInt x; omega, by have := Int32.toInt_lt x; omega⟩
theorem jR_le {x y : Int} (hx : jR x) (hy : jR y) : Int32.ofInt x ≤ Int32.ofInt y ↔ x ≤ y := by
  rw [Int32.le_iff_toInt_le, jR_toInt hx, jR_toInt hy]
theorem jR_lt {x y : Int} (hx : jR x) (hy : jR y) : Int32.ofInt x < Int32.ofInt y ↔ x < y := by
  rw [Int32.lt_iff_toInt_lt, jR_toInt hx, jR_toInt hy]
theorem jR_eq {x y : Int} (hx : jR x) (hy : jR y) : Int32.ofInt x = Int32.ofInt y ↔ x = y :=
  ⟨fun h => by have h2 := congrArg Int32.toInt h; rwa [jR_toInt hx, jR_toInt hy] at h2, fun h => by rw [h]⟩
theorem jR_0 : jR 0 := ⟨by decide, by decide⟩
theorem j_0 : (0 : Int32) = Int32.ofInt 0 := rfl
theorem j_ix {i : Int} (hi : jR i) : (Int32.ofInt i).toNatClampNeg = i.toNat := by
  rw [← Int32.toNat_toInt, jR_toInt hi]
theorem j_in {i : Int} {n : Nat} (hi : jR i) (h : 0 ≤ i) (h2 : i < n) : vp_in (Int32.ofInt i) n := by
  rw [vp_in_iff, jR_toInt hi]
  exact ⟨h, h2⟩
theorem j_nneg {i : Int} (hi : jR i) (h : 0 ≤ i) : ¬ Int32.ofInt i < 0 := by
  rw [j_0, jR_lt hi jR_0]; omega
abbrev jA : Type := Int ⊕ Nat
def jRA : jA → Prop
  | .inl z => jR z
  | .inr _ => True
/-- fields of ints, fields of references, elements of ints, elements of references, shapes (kind, length), the next number -/
abbrev jH : Type := (Nat → Nat → Int) × (Nat → Nat → Nat) × (Nat → Nat → Int) × (Nat → Nat → Nat) × (Nat → Nat × Nat) × Nat
def jI (h : jH) : Nat → Nat → Int := h.1
def jP (h : jH) : Nat → Nat → Nat := h.2.1
def jX (h : jH) : Nat → Nat → Int := h.2.2.1
def jY (h : jH) : Nat → Nat → Nat := h.2.2.2.1
def jS (h : jH) : Nat → Nat × Nat := h.2.2.2.2.1
def jN (h : jH) : Nat := h.2.2.2.2.2
def ju {α : Type} (f : Nat → Nat → α) (a k : Nat) (v : α) : Nat → Nat → α := fun a' k' => if a' = a ∧ k' = k then v else f a' k'
def jsI (h : jH) (a k : Nat) (v : Int) : jH := (ju (jI h) a k v, h.2)
def jsP (h : jH) (a k : Nat) (v : Nat) : jH := (h.1, ju (jP h) a k v, h.2.2)
def jsX (h : jH) (a k : Nat) (v : Int) : jH := (h.1, h.2.1, ju (jX h) a k v, h.2.2.2)
def jsY (h : jH) (a k : Nat) (v : Nat) : jH := (h.1, h.2.1, h.2.2.1, ju (jY h) a k v, h.2.2.2.2)
def jz {α : Type} (f : Nat → Nat → α) (a : Nat) (v : α) : Nat → Nat → α := fun a' k' => if a' = a then v else f a' k'
/-- a new cell: all its ints 0, all its references null -/
def jnew (h : jH) (kind len : Nat) : jH := (jz (jI h) (jN h) 0, jz (jP h) (jN h) 0, jz (jX h) (jN h) 0, jz (jY h) (jN h) 0, fun a => if a = jN h then (kind, len) else jS h a, jN h + 1)
/-- System.arraycopy of ints -/
def jcpy (h : jH) (a0 sp a1 dp n : Nat) : jH := (h.1, h.2.1, fun a k => if a = a1 ∧ dp ≤ k ∧ k < dp + n then jX h a0 (sp + (k - dp)) else jX h a k, h.2.2.2)
abbrev jG : Type := Nat × Nat × va_G × (Nat → ClassId)
abbrev jgb (G : jG) : Nat := G.1
abbrev jgz (G : jG) : Nat := G.2.1
abbrev jgD (G : jG) : va_G := G.2.2.1
abbrev jgA (G : jG) : Nat → ClassId := G.2.2.2
def jrf (G : jG) : Nat → Option Nat
  | 0 => none
  | 1 => some (jgb G)
  | n + 2 => some (jgz G + n)
def jV (G : jG) : jA → Value
  | .inl z => .int (Int32.ofInt z)
  | .inr p => va_rf (jrf G p)
abbrev jcl : List vw_C := [(RX0, TX0, 4), (RX1, TX1, 4), (RX2, TX2, 13), (RX3, TX3, 4), (RX4, TX4, 2), (RX5, TX5, 5), (RX6, TX6, 7), (RX7, TX7, 5), (RX8, TX8, 14), (RX9, TX9, 50)]
def jR_ : Nat → String
  | 0 => RX0 | 1 => RX1 | 2 => RX2 | 3 => RX3 | 4 => RX4 | 5 => RX5 | 6 => RX6 | 7 => RX7 | 8 => RX8 | _ => RX9
def jT_ : Nat → u_T
  | 0 => TX0 | 1 => TX1 | 2 => TX2 | 3 => TX3 | 4 => TX4 | 5 => TX5 | 6 => TX6 | 7 => TX7 | 8 => TX8 | _ => TX9
def jt_ : Nat → Nat → FieldType
  | 0 => tyX0 | 1 => tyX1 | 2 => tyX2 | 3 => tyX3 | 4 => tyX4 | 5 => tyX5 | 6 => tyX6 | 7 => tyX7 | 8 => tyX8 | _ => tyX9
def jF_ : Nat → Nat
  | 0 => 4 | 1 => 4 | 2 => 13 | 3 => 4 | 4 => 2 | 5 => 5 | 6 => 7 | 7 => 5 | 8 => 14 | _ => 50
theorem jcl_get : ∀ c, c < 10 → jcl[c]? = some (jR_ c, jT_ c, jF_ c) := by
  intro c hc
  rcases (show c = 0 ∨ c = 1 ∨ c = 2 ∨ c = 3 ∨ c = 4 ∨ c = 5 ∨ c = 6 ∨ c = 7 ∨ c = 8 ∨ c = 9 by omega) with rfl | rfl | rfl | rfl | rfl | rfl | rfl | rfl | rfl | rfl <;> rfl
theorem jt_ok : ∀ c, c < 10 → ∀ k, k < jF_ c → parseFieldDescriptor (jT_ c k).2.2.1 = some (jt_ c k) := by
  intro c hc
  rcases (show c = 0 ∨ c = 1 ∨ c = 2 ∨ c = 3 ∨ c = 4 ∨ c = 5 ∨ c = 6 ∨ c = 7 ∨ c = 8 ∨ c = 9 by omega) with rfl | rfl | rfl | rfl | rfl | rfl | rfl | rfl | rfl | rfl
  · exact tyX0_ok
  · exact tyX1_ok
  · exact tyX2_ok
  · exact tyX3_ok
  · exact tyX4_ok
  · exact tyX5_ok
  · exact tyX6_ok
  · exact tyX7_ok
  · exact tyX8_ok
  · exact tyX9_ok
theorem jn_ok : ∀ c, c < 10 → ∀ a, a < jF_ c → ∀ b, b < jF_ c → a ≠ b → (jT_ c a).2.1 ≠ (jT_ c b).2.1 := by
  intro c hc
  rcases (show c = 0 ∨ c = 1 ∨ c = 2 ∨ c = 3 ∨ c = 4 ∨ c = 5 ∨ c = 6 ∨ c = 7 ∨ c = 8 ∨ c = 9 by omega) with rfl | rfl | rfl | rfl | rfl | rfl | rfl | rfl | rfl | rfl
  · exact nmX0
  · exact nmX1
  · exact nmX2
  · exact nmX3
  · exact nmX4
  · exact nmX5
  · exact nmX6
  · exact nmX7
  · exact nmX8
  · exact nmX9
def jrt : FieldType → Bool
  | .int => false
  | .boolean => false
  | _ => true
def jfv (G : jG) (h : jH) (a c k : Nat) : Value := if jrt (jt_ c k) then va_rf (jrf G (jP h a k)) else .int (Int32.ofInt (jI h a k))
def jfs (G : jG) (h : jH) (a c : Nat) : List Value := (List.range (jF_ c)).map (jfv G h a c)
def jar (G : jG) (h : jH) (a kind len : Nat) : vp_A := (len, if kind < 18 then .inl (fun j => Int32.ofInt (jX h a j)) else .inr (.inr (.inr (.inr (fun j => jrf G (jY h a j))))))
def jE (G : jG) (h : jH) (a : Nat) : va_E := if (jS h a).1 < 10 then .inr ((jS h a).1, jfs G h a (jS h a).1) else .inl (jgA G (jS h a).1, jar G h a (jS h a).1 (jS h a).2)
def jW (G : jG) (h : jH) : va_W := (List.range (jN h - 2)).map (fun i => (jgz G + i, jE G h (i + 2)))
abbrev jAt (G : jG) : Nat → Prop := fun q => jgz G ≤ q
def jtys (G : jG) : List (ClassId × FieldType) := [(jgA G 16, .int), (jgA G 17, .boolean), (jgA G 18, .object RX0), (jgA G 19, .object RX6), (jgA G 20, .array .int)]
def jTs : List Cond := lw_tbl.filter goodWord
def jnest : Cond → Bool
  | .fieldLinkNest .. => true
  | .methodLinkNest .. => true
  | _ => false
def jAOA (U : State) : Prop := (Cond.arrayOver (.array .int)).before #[] U = true
def jNw (U : State) : Prop := ∀ w ∈ lw_tbl, jnest w = true → va_Nw w U
def jSt (G : jG) (s : State) : Prop := va_K (jgD G) jcl (jtys G) s ∧ jNw s ∧ va_AO RX0 s ∧ va_AO RX6 s ∧ jAOA s
def jWf (h : jH) : Prop := 2 ≤ jN h ∧ (∀ a k, jR (jI h a k)) ∧ (∀ a k, jR (jX h a k)) ∧ (jS h 0).1 = 99 ∧ (jS h 1).1 = 15 ∧ (∀ a, jN h ≤ a → (jS h a).1 = 99) ∧ ∀ a, (jS h a).2 < 2147483648
def jOk (G : jG) (h : jH) (H0 H : Heap) (locs : List Loc) (s : State) : Prop :=
  jWf h ∧ jSt G s ∧ va_P (jgD G) jcl (jW G h) H ∧ va_S (jAt G) H0 H locs ∧ H.size = jgz G + (jN h - 2) ∧ jgb G < jgz G ∧ jgz G ≤ H0.size ∧ va_X (jgb G) (jS h 1).2 (fun j => Int32.ofInt (jX h 1 j)) s H
theorem jW_get (G : jG) (h : jH) {a : Nat} (h2 : 2 ≤ a) (hn : a < jN h) : (jW G h)[a - 2]? = some (jgz G + (a - 2), jE G h a) := by
  unfold jW
  rw [List.getElem?_map, List.getElem?_range (by omega)]
  simp [show a - 2 + 2 = a by omega]
theorem jrf_at (G : jG) {a : Nat} (h2 : 2 ≤ a) : jrf G a = some (jgz G + (a - 2)) := by
  obtain ⟨n, rfl⟩ : ∃ n, a = n + 2 := ⟨a - 2, by omega⟩
  simp [jrf]
theorem jD (G : jG) (h : jH) : va_D (jAt G) (jW G h) := by
  have key : ∀ (k : Nat) (q : Nat × va_E), (jW G h)[k]? = some q → q.1 = jgz G + k := by
    intro k q hk
    unfold jW at hk
    rw [List.getElem?_map] at hk
    by_cases hl : k < jN h - 2
    · rw [List.getElem?_range hl] at hk
      cases hk
      rfl
    · rw [List.getElem?_eq_none (by simp; omega)] at hk
      cases hk
  refine ⟨fun i j p q hi hj hpq => ?_, fun k q hk => ?_⟩
  · have := key i p hi
    have := key j q hj
    omega
  · have := key k q hk
    show jgz G ≤ q.1
    omega
theorem jw_range {h : jH} (hw : jWf h) {a : Nat} (hk : (jS h a).1 ≠ 99) (hk2 : (jS h a).1 ≠ 15) : 2 ≤ a ∧ a < jN h := by
  obtain ⟨-, -, -, h0, h1, hn, -⟩ := hw
  refine ⟨?_, ?_⟩
  · rcases Nat.lt_or_ge a 2 with q | q
    · rcases (show a = 0 ∨ a = 1 by omega) with rfl | rfl
      · exact absurd h0 hk
      · exact absurd h1 hk2
    · exact q
  · rcases Nat.lt_or_ge a (jN h) with q | q
    · exact q
    · exact absurd (hn a q) hk
theorem jE_obj {G : jG} {h : jH} {a c : Nat} (hS : (jS h a).1 = c) (hc : c < 10) : jE G h a = .inr (c, jfs G h a c) := by
  unfold jE
  rw [if_pos (by rw [hS]; exact hc), hS]
theorem jE_arr {G : jG} {h : jH} {a c : Nat} (hS : (jS h a).1 = c) (hc : 16 ≤ c) : jE G h a = .inl (jgA G c, jar G h a c (jS h a).2) := by
  unfold jE
  rw [if_neg (by rw [hS]; omega), hS]
theorem jfs_get {G : jG} {h : jH} {a c k : Nat} (hk : k < jF_ c) : (jfs G h a c)[k]? = some (jfv G h a c k) := by
  unfold jfs
  rw [List.getElem?_map, List.getElem?_range hk]
  rfl
theorem jfs_len {G : jG} {h : jH} {a c : Nat} : (jfs G h a c).length = jF_ c := by simp [jfs]
theorem jW_ext {G : jG} {h h' : jH} {a : Nat} {e : va_E} (hN : jN h' = jN h) (h2 : 2 ≤ a) (hn : a < jN h) (he : jE G h' a = e) (ho : ∀ b, b ≠ a → jE G h' b = jE G h b) : jW G h' = (jW G h).set (a - 2) (jgz G + (a - 2), e) := by
  apply List.ext_getElem?
  intro k
  by_cases hl : k < jN h - 2
  · have g1 := jW_get G h' (a := k + 2) (by omega) (by omega)
    have g2 := jW_get G h (a := k + 2) (by omega) (by omega)
    rw [show k + 2 - 2 = k by omega] at g1 g2
    by_cases hk : k = a - 2
    · subst hk
      rw [g1, List.getElem?_set_self (by have := (List.getElem?_eq_some_iff.mp g2).1; exact this)]
      rw [show a - 2 + 2 = a by omega, he]
    · rw [g1, List.getElem?_set_ne (by omega), g2, ho _ (by omega)]
  · rw [List.getElem?_eq_none (by simp [jW]; omega), List.getElem?_eq_none (by simp [jW]; omega)]
end JA
