/-! ===== what constructors make ===== -/
section NJ
variable {h g h0 k0 : jH} {a c m lo hi lo' hi' kf kd n N K : Nat} {l : List (Nat × Nat)} {T U : List (Nat × Nat × Nat)}
/-- a stretch of cells stands as it stood -/
def SM (lo hi : Nat) (h g : jH) : Prop := ∀ b, lo ≤ b → b < hi → jI g b = jI h b ∧ jP g b = jP h b ∧ jX g b = jX h b ∧ jY g b = jY h b ∧ jS g b = jS h b
theorem SM.rf : SM lo hi h h := fun _ _ _ => ⟨rfl, rfl, rfl, rfl, rfl⟩
theorem SM.trans (h1 : SM lo hi h g) (h2 : SM lo hi g k0) : SM lo hi h k0 := fun b x y =>
  ⟨(h2 b x y).1.trans (h1 b x y).1, (h2 b x y).2.1.trans (h1 b x y).2.1, (h2 b x y).2.2.1.trans (h1 b x y).2.2.1, (h2 b x y).2.2.2.1.trans (h1 b x y).2.2.2.1, (h2 b x y).2.2.2.2.trans (h1 b x y).2.2.2.2⟩
theorem SM.sub (h1 : SM lo hi h g) (x : lo ≤ lo') (y : hi' ≤ hi) : SM lo' hi' h g := fun b p q => h1 b (by omega) (by omega)
theorem SM.nw (hm : hi ≤ jN h) : SM lo hi h (jnew h kd n) := fun b _ y => by
  have e : ¬ b = jN h := by omega
  exact ⟨funext fun _ => if_neg e, funext fun _ => if_neg e, funext fun _ => if_neg e, funext fun _ => if_neg e, if_neg e⟩
theorem SM.ml (hm : hi ≤ jN h) : SM lo hi h (jmul h N K) := fun b _ y => by
  have e : ¬ (jN h ≤ b ∧ b ≤ jN h + N) := by omega
  exact ⟨funext fun _ => if_neg e, funext fun _ => if_neg e, funext fun _ => if_neg e, funext fun _ => if_neg e, if_neg e⟩
theorem SM.sP {v : Nat} (hm : a < lo ∨ hi ≤ a) : SM lo hi h (jsP h a kf v) := fun b x y =>
  ⟨rfl, funext fun j => by rw [jP_sP, if_neg (by omega)], rfl, rfl, rfl⟩
theorem SM.sI {v : Int} (hm : a < lo ∨ hi ≤ a) : SM lo hi h (jsI h a kf v) := fun b x y =>
  ⟨funext fun j => by rw [jI_sI, if_neg (by omega)], rfl, rfl, rfl, rfl⟩
theorem SM.sY {v : Nat} (hm : a < lo ∨ hi ≤ a) : SM lo hi h (jsY h a kf v) := fun b x y =>
  ⟨rfl, rfl, rfl, funext fun j => by rw [jY_sY, if_neg (by omega)], rfl⟩
theorem Fr.sm {u v : Nat} (f : Fr u v h g) (hm : v ≤ lo ∨ hi ≤ u) : SM lo hi h g := fun b x y =>
  ⟨(f.2.2.2 b (by omega)).1, by rw [f.1], (f.2.2.2 b (by omega)).2.1, (f.2.2.2 b (by omega)).2.2, by rw [f.2.1]⟩
/-- the fields of references that are set -/
def tb : List (Nat × Nat) → Nat → Nat
  | [] => fun _ => 0
  | (k, v) :: l => fun j => if j = k then v else tb l j
/-- an object, its arrays T, its arrays of arrays U -/
def OB (a c m : Nat) (l : List (Nat × Nat)) (T U : List (Nat × Nat × Nat)) (g : jH) : Prop :=
  (jS g a).1 = c ∧ jI g a = (fun _ => 0) ∧ jP g a = tb l ∧ (∀ t ∈ T, (a < t.1 ∧ t.1 < m) ∧ jS g t.1 = t.2 ∧ jX g t.1 = fun _ => 0) ∧
  ∀ u ∈ U, (a < u.1 ∧ u.1 + 1 + u.2.1 ≤ m) ∧ jS g u.1 = (20, u.2.1) ∧ ∀ i, i < u.2.1 → jY g u.1 i = u.1 + 1 + i ∧ jS g (u.1 + 1 + i) = (16, u.2.2)
theorem OB.sm (hO : OB a c m l T U h) (ham : a < m) (f : SM a m h g) : OB a c m l T U g := by
  obtain ⟨o1, o2, o3, o4, o5⟩ := hO
  have fa := f a (Nat.le_refl a) ham
  refine ⟨by rw [fa.2.2.2.2]; exact o1, by rw [fa.1]; exact o2, by rw [fa.2.1]; exact o3, fun t ht => ?_, fun u hu => ?_⟩
  · obtain ⟨q1, q2, q3⟩ := o4 t ht
    have ft := f t.1 (by omega) q1.2
    exact ⟨q1, by rw [ft.2.2.2.2]; exact q2, by rw [ft.2.2.1]; exact q3⟩
  · obtain ⟨q1, q2, q3⟩ := o5 u hu
    have fu := f u.1 (by omega) (by omega)
    refine ⟨q1, by rw [fu.2.2.2.2]; exact q2, fun i hi => ?_⟩
    rw [fu.2.2.2.1, (f (u.1 + 1 + i) (by omega) (by omega)).2.2.2.2]
    exact q3 i hi
def CT (a c m : Nat) (l : List (Nat × Nat)) (T U : List (Nat × Nat × Nat)) (h g : jH) : Prop := jN g = m ∧ a < m ∧ OB a c m l T U g ∧ SM 0 a h g
theorem CT.new (hm : jN h = a) : CT a kd (a + 1) [] [] [] h (jnew h kd n) := by
  subst hm
  refine ⟨rfl, by omega, ⟨congrArg Prod.fst (if_pos rfl), funext fun _ => if_pos rfl, funext fun _ => if_pos rfl, fun t ht => absurd ht List.not_mem_nil, fun t ht => absurd ht List.not_mem_nil⟩, SM.nw (Nat.le_refl _)⟩
theorem CT.sh (hC : CT a c m l T U h g) : (jS (jnew g kd n) a).1 = c := by
  show (if a = jN g then (kd, n) else jS g a).1 = c
  rw [if_neg (by have := hC.1; have := hC.2.1; omega)]
  exact hC.2.2.1.1
theorem CT.shm (hC : CT a c m l T U h g) : (jS (jmul g N K) a).1 = c := by
  show (if jN g ≤ a ∧ a ≤ jN g + N then (if a = jN g then (20, N) else (16, K)) else jS g a).1 = c
  rw [if_neg (by have := hC.1; have := hC.2.1; omega)]
  exact hC.2.2.1.1
/-- the object's own field is set; the rest of it has grown -/
theorem OB.put (hO : OB a c m l T U g) (ham : a < m) {v : Nat} : OB a c m ((kf, v) :: l) T U (jsP g a kf v) := by
  obtain ⟨o1, o2, o3, o4, o5⟩ := hO
  refine ⟨o1, o2, funext fun j => ?_, o4, o5⟩
  rw [jP_sP, o3]
  show _ = if j = kf then v else tb l j
  by_cases z : j = kf
  · rw [if_pos ⟨rfl, z⟩, if_pos z]
  · rw [if_neg (fun y => z y.2), if_neg z]
theorem OB.wide (hO : OB a c m l T U g) {m' : Nat} (hm : m ≤ m') : OB a c m' l T U g := by
  obtain ⟨o1, o2, o3, o4, o5⟩ := hO
  exact ⟨o1, o2, o3, fun t ht => ⟨⟨(o4 t ht).1.1, by have := (o4 t ht).1.2; omega⟩, (o4 t ht).2⟩, fun u hu => ⟨⟨(o5 u hu).1.1, by have := (o5 u hu).1.2; omega⟩, (o5 u hu).2⟩⟩
theorem CT.arr (hC : CT a c m l T U h g) : CT a c (m + 1) ((kf, m) :: l) ((m, kd, n) :: T) U h (jsP (jnew g kd n) a kf (jN g)) := by
  obtain ⟨c1, c2, c3, c4⟩ := hC
  have o1 : OB a c m l T U (jnew g kd n) := c3.sm c2 (SM.nw (by omega))
  have o2 : OB a c (m + 1) l ((m, kd, n) :: T) U (jnew g kd n) := by
    obtain ⟨q1, q2, q3, q4, q5⟩ := o1.wide (m' := m + 1) (by omega)
    refine ⟨q1, q2, q3, fun t ht => ?_, q5⟩
    rcases List.mem_cons.mp ht with rfl | z
    · exact ⟨⟨c2, by show m < m + 1; omega⟩, if_pos c1.symm, funext fun _ => if_pos c1.symm⟩
    · exact q4 t z
  refine ⟨by show jN g + 1 = m + 1; omega, by omega, by rw [c1]; exact o2.put (by omega), (c4.trans (SM.nw (by omega))).trans (SM.sP (by omega))⟩
theorem CT.mul (hC : CT a c m l T U h g) : CT a c (m + 1 + N) ((kf, m) :: l) T ((m, N, K) :: U) h (jsP (jmul g N K) a kf (jN g)) := by
  obtain ⟨c1, c2, c3, c4⟩ := hC
  have o1 : OB a c m l T U (jmul g N K) := c3.sm c2 (SM.ml (by omega))
  have o2 : OB a c (m + 1 + N) l T ((m, N, K) :: U) (jmul g N K) := by
    obtain ⟨q1, q2, q3, q4, q5⟩ := o1.wide (m' := m + 1 + N) (by omega)
    refine ⟨q1, q2, q3, q4, fun t ht => ?_⟩
    rcases List.mem_cons.mp ht with rfl | z
    · refine ⟨⟨c2, Nat.le_refl _⟩, ?_, fun i hi => ?_⟩
      · show (if jN g ≤ m ∧ m ≤ jN g + N then (if m = jN g then (20, N) else (16, K)) else jS g m) = (20, N)
        rw [if_pos (by omega), if_pos c1.symm]
      · have hi : i < N := hi
        constructor
        · show (if jN g ≤ m ∧ m ≤ jN g + N then (if m = jN g ∧ i < N then jN g + 1 + i else 0) else jY g m i) = m + 1 + i
          rw [if_pos (by omega), if_pos ⟨c1.symm, hi⟩, c1]
        · show (if jN g ≤ m + 1 + i ∧ m + 1 + i ≤ jN g + N then (if m + 1 + i = jN g then (20, N) else (16, K)) else jS g (m + 1 + i)) = (16, K)
          rw [if_pos (by omega), if_neg (by omega)]
    · exact q5 t z
  refine ⟨by show jN g + 1 + N = m + 1 + N; omega, by omega, by rw [c1]; exact o2.put (by omega), (c4.trans (SM.ml (by omega))).trans (SM.sP (by omega))⟩
/-- an object made within -/
theorem CT.obj {m' : Nat} {g' : jH} (hC : CT a c m l T U h g) (f : SM 0 m g g') (hN : jN g' = m') (hm : m < m') : CT a c m' ((kf, m) :: l) T U h (jsP g' a kf m) := by
  obtain ⟨c1, c2, c3, c4⟩ := hC
  exact ⟨hN, by omega, ((c3.sm c2 (f.sub (by omega) (by omega))).wide (by omega)).put (by omega), (c4.trans (f.sub (by omega) (by omega))).trans (SM.sP (by omega))⟩
section NJa
variable {M : jM} {d pc mc ms mc' ms' : Nat} {L : List (Option jA)} {st : List jA} {Q : Option jA → jH → Prop}
theorem V_cost (h1 : mc = mc') (h2 : ms = ms') (k : V M d pc L st h mc' ms' Q) : V M d pc L st h mc ms Q := by subst h1; subst h2; exact k
theorem V_arr (hC : CT a c m l T U h0 g) (k : ∀ g', CT a c (m + 1) ((kf, m) :: l) ((m, kd, n) :: T) U h0 g' → V M d pc L st g' mc ms Q) : V M d pc L st (jsP (jnew g kd n) a kf (jN g)) mc ms Q := k _ hC.arr
theorem V_mul (hC : CT a c m l T U h0 g) (k : ∀ g', CT a c (m + 1 + N) ((kf, m) :: l) T ((m, N, K) :: U) h0 g' → V M d pc L st g' mc ms Q) : V M d pc L st (jsP (jmul g N K) a kf (jN g)) mc ms Q := k _ hC.mul
end NJa
end NJ
