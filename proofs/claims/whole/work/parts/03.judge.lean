/-! ===== V: W over the small picture; Ex: a method's contract over it ===== -/
section JB
abbrev jM : Type := MethodName × ByteArray × Nat × Option FieldType
abbrev jmY (M : jM) : MethodName := M.1
abbrev jmO (M : jM) : String := M.1.cls
abbrev jmC (M : jM) : ByteArray := M.2.1
abbrev jmL (M : jM) : Nat := M.2.2.1
abbrev jmR (M : jM) : Option FieldType := M.2.2.2
def jws (M : jM) : List Cond := Cond.code (jmY M) (jmC M) (jmL M) (jmR M) :: jTs
def jroom (d mc ms : Nat) : Room := { frames := d + 1, cells := mc, slots := ms, locals := 64 * (d + 1) }
def jLs (G : jG) (ls : Array Slot) (n : Nat) (L : List (Option jA)) : Prop :=
  ls.size = n ∧ lv_wf ls ∧ L.length = n ∧ ∀ (i : Nat) (v : jA), L[i]? = some (some v) → ls[i]? = some (.val (jV G v)) ∧ jRA v
theorem jV_cat (G : jG) (v : jA) : (jV G v).category = 1 := by
  cases v with
  | inl z => rfl
  | inr p =>
    show (va_rf (jrf G p)).category = 1
    cases jrf G p <;> rfl
def jasc (G : jG) (L : List (Option jA)) : List (Nat × Value) := (List.range L.length).filterMap (fun i => ((L[i]?).join).map (fun v => (i, jV G v)))
theorem jLs_has {G : jG} {ls : Array Slot} {n : Nat} {L : List (Option jA)} (h : jLs G ls n L) : lv_has ls n (jasc G L) := by
  refine ⟨h.1, h.2.1, fun q hq => ?_⟩
  obtain ⟨i, -, hi⟩ := List.mem_filterMap.mp hq
  rw [Option.map_eq_some_iff] at hi
  obtain ⟨v, hv, rfl⟩ := hi
  rw [Option.join_eq_some_iff] at hv
  exact (h.2.2.2 i v hv).1
theorem jLs_mem {G : jG} {ls : Array Slot} {n : Nat} {L : List (Option jA)} (h : jLs G ls n L) {j : Nat} {w : jA} (hj : L[j]? = some (some w)) : (j, jV G w) ∈ jasc G L := by
  refine List.mem_filterMap.mpr ⟨j, List.mem_range.mpr ((List.getElem?_eq_some_iff.mp hj).1), ?_⟩
  rw [hj]
  rfl
theorem jLs_set {G : jG} {ls ls' : Array Slot} {n i : Nat} {L : List (Option jA)} {v : jA} (h : jLs G ls n L) (hi : i < n) (hv : jRA v)
    (h' : lv_has ls' n ((i, jV G v) :: (jasc G L).filter (fun q => !(q.1 == i) && !(q.1 + 1 == i && q.2.category == 2)))) : jLs G ls' n (L.set i (some v)) := by
  refine ⟨h'.1, h'.2.1, by rw [List.length_set]; exact h.2.2.1, fun j w hj => ?_⟩
  by_cases e : j = i
  · subst e
    rw [List.getElem?_set_self (by rw [h.2.2.1]; exact hi)] at hj
    cases hj
    exact ⟨h'.2.2 _ List.mem_cons_self, hv⟩
  · rw [List.getElem?_set_ne (Ne.symm e)] at hj
    refine ⟨h'.2.2 (j, jV G w) (List.mem_cons_of_mem _ (List.mem_filter.mpr ⟨jLs_mem h hj, ?_⟩)), (h.2.2.2 j w hj).2⟩
    simp [e, jV_cat]
def jRet : Option FieldType → Option jA → Prop
  | none, none => True
  | some .int, some (.inl z) => jR z
  | some .boolean, some (.inl z) => z = 0 ∨ z = 1
  | _, _ => False
theorem jRet_ra {r : Option FieldType} {v : Option jA} (h : jRet r v) : ∀ x, v = some x → jRA x := by
  intro x hx
  subst hx
  cases x with
  | inr p => trivial
  | inl z =>
    rcases r with _ | r
    · cases h
    · cases r <;> first | exact h | (rcases h with rfl | rfl <;> exact ⟨by decide, by decide⟩) | exact absurd h id
def jRI : Option FieldType → Instr
  | none => .return_
  | some _ => .ireturn
section
variable (p : Program) (l : Launch) (e : Env) (R : Room) (s : State) (m : MethodId) (args : Array Value) (below : List Frame) (meth : Method) (c : Code)
def jFin (M : jM) (G : jG) (MC MS : Nat) (Z : State → Prop) (Q : Option jA → jH → Prop) : Prop :=
  ∀ (v : Option jA) (h' : jH) (H' : Heap) (locs' : List Loc) (pc' : Nat) (ls' : Array Slot), Q v h' → jOk G h' s.heap H' locs' s → jRet (jmR M) v → H'.size = s.heap.size + MC → decode (jmC M) pc' = .ok (jRI (jmR M), 1) →
    W p l e R s m args below meth c H' locs' MC MS Z (F0 m pc' ls' (v.toList.map (jV G)))
/-- what holds all through a method's walk -/
def jCx (M : jM) (d : Nat) (G : jG) (MC MS : Nat) (Z : State → Prop) (Q : Option jA → jH → Prop) : Prop :=
  p.tables.exec = Jvm.exec ∧ c.code = jmC M ∧ c.maxLocals = jmL M ∧ s.vm.findClass (jmO M) = some m.cls ∧ (∀ w ∈ jTs, w.before args s = true) ∧ ((jmY M).name = "<init>" → meth.name = "<init>") ∧ d + 1 ≤ R.frames ∧ 64 * (d + 1) ≤ R.locals ∧ MC ≤ R.cells ∧ MS ≤ R.slots ∧ jFin p l e R s m args below meth c M G MC MS Z Q
end
def V (M : jM) (d pc : Nat) (L : List (Option jA)) (st : List jA) (h : jH) (mc ms : Nat) (Q : Option jA → jH → Prop) : Prop :=
  ∀ (p : Program) (l : Launch) (e : Env) (R : Room) (s : State) (m : MethodId) (args : Array Value) (below : List Frame) (meth : Method) (c : Code) (G : jG) (MC MS : Nat) (Z : State → Prop) (H : Heap) (locs : List Loc) (cells slots : Nat) (ls : Array Slot),
    jCx p l e R s m args below meth c M d G MC MS Z Q → jOk G h s.heap H locs s → jLs G ls (jmL M) L → (∀ v ∈ st, jRA v) → cells + mc = MC → slots + ms = MS → H.size = s.heap.size + cells →
    W p l e R s m args below meth c H locs cells slots Z (F0 m pc ls (st.map (jV G)))
def jPc (G : jG) (as : List jA) (h : jH) : Array Value → State → Prop := fun v U => v = (as.map (jV G)).toArray ∧ (∀ x ∈ as, jRA x) ∧ jOk G h U.heap U.heap [] U
def jQc (G : jG) (mc : Nat) (Q : Option jA → jH → Prop) : Array Value → State → Outcome → State → Prop := fun _ st o t => ∃ (v : Option jA) (h' : jH), o = .returned (v.map (jV G)) ∧ Q v h' ∧ (∀ x, v = some x → jRA x) ∧ jOk G h' st.heap t.heap [] t ∧ t.heap.size = st.heap.size + mc
def Ex (M : jM) (d : Nat) (as : List jA) (h : jH) (mc ms : Nat) (Q : Option jA → jH → Prop) : Prop :=
  ∀ (l : Launch) (G : jG), Met l (jmY M) (jws M) (jroom d mc ms) (jPc G as h) (jQc G mc Q) mc ms (jAt G)
theorem Ex.mono {M : jM} {d : Nat} {as : List jA} {h : jH} {mc ms : Nat} {Q Q' : Option jA → jH → Prop} (hE : Ex M d as h mc ms Q) (hQ : ∀ v h', Q v h' → Q' v h') : Ex M d as h mc ms Q' := by
  intro l G p e a1 a2 a3 s m args below a4 a5 a6 a7
  obtain ⟨n, o, b1, b2, b3, ⟨v, h', c1, c2, c3⟩, b5⟩ := hE l G p e a1 a2 a3 s m args below a4 a5 a6 a7
  exact ⟨n, o, b1, b2, b3, ⟨v, h', c1, hQ v h' c2, c3⟩, b5⟩
theorem jAOA.moved {u U : State} (hvm : u.vm.Alike U.vm) (h : jAOA u) : jAOA U := by
  have spec : ∃ comp c k, u.vm.findClass (FieldType.array .int).toString = some comp ∧ (u.vm.classes.findIdx? fun x => match x.kind with | .array component _ => component == comp | _ => false) = some c ∧ u.vm.classes[c]? = some k ∧ k.kind = .array comp (.array .int) ∧ u.vm.findClass ("[" ++ (FieldType.array .int).toString) = some c := by
    unfold jAOA Cond.before at h
    simp only [Cond.holds, Cond.value, beq_iff_eq] at h
    cases hc : u.vm.findClass (FieldType.array .int).toString with
    | none => simp [hc] at h
    | some comp =>
      simp only [hc, Option.bind_some, Option.bind_eq_some_iff, Option.map_eq_some_iff] at h
      obtain ⟨c, hi, k, hk, hb⟩ := h
      obtain ⟨hlt, hp, -⟩ := Array.findIdx?_eq_some_iff_getElem.mp hi
      have hkk : u.vm.classes[c] = k := (Array.getElem?_eq_some_iff.mp hk).2
      rw [hkk] at hp
      cases hkind : k.kind with
      | array component ty =>
        rw [hkind] at hb hp
        simp at hb hp
        exact ⟨comp, c, k, rfl, hi, hk, by rw [hkind, hp, hb.1], hb.2⟩
      | _ => rw [hkind] at hb; simp at hb
  obtain ⟨comp, c, k, h1, h2, h3, h4, h5⟩ := spec
  obtain ⟨k', hk', he⟩ := hvm.2.2 _ _ h3
  have hi : (U.vm.classes.findIdx? fun x => match x.kind with | .array component _ => component == comp | _ => false) = some c := by
    have e1 := va_idx_bare U.vm comp
    have e2 := va_idx_bare u.vm comp
    have e3 : U.vm.bare = u.vm.bare := by first | exact hvm.bare_eq | exact hvm.bare_eq.symm
    rw [e3] at e1
    exact (e1.symm.trans e2).trans h2
  have hkind : k'.kind = .array comp (.array .int) := by rw [he]; exact h4
  have f1 : U.vm.findClass (FieldType.array .int).toString = some comp := by rw [hvm.findClass]; exact h1
  have f2 : U.vm.findClass ("[" ++ (FieldType.array .int).toString) = some c := by rw [hvm.findClass]; exact h5
  unfold jAOA Cond.before Cond.holds
  simp only [Cond.value]
  rw [f1, Option.bind_some]
  refine (congrArg (fun o : Option Nat => (o.bind (fun c => (U.vm.classes[c]?).map fun (k : Class) => match k.kind with | .array _ ty => decide (ty = FieldType.array .int) && decide (U.vm.findClass ("[" ++ (FieldType.array .int).toString) = some c) | _ => false) == some true)) hi).trans ?_
  simp [hk', hkind, f2]
theorem jSt.alike {G : jG} {u U : State} (hvm : u.vm.Alike U.vm) (hn : jNw u → jNw U) (h : jSt G u) : jSt G U :=
  ⟨va_K.moved hvm h.1, hn h.2.1, h.2.2.1.moved hvm, h.2.2.2.1.moved hvm, h.2.2.2.2.moved hvm⟩
theorem jSt.warm {G : jG} {u U : State} (hW : u.WarmedH U.vm) (h : jSt G u) : jSt G U := by
  refine h.alike hW.alike (fun hn w hw hj => ?_)
  have h1 := hn w hw hj
  cases w <;> first | exact va_Nw.warmF hW h1 | exact va_Nw.warmM hW h1 | exact absurd hj (by simp [jnest])
theorem jSt.same {G : jG} {u U : State} (hvm : u.vm = U.vm) (h : jSt G u) : jSt G U := by
  refine h.alike (by rw [hvm]; exact Vm.Alike.refl U.vm) (fun hn w hw hj => ?_)
  have h1 := hn w hw hj
  cases w <;> first | exact va_Nw.same rfl hvm h1 | exact absurd hj (by simp [jnest])
end JB
