/-! THE CLAIM OUT OF ONE WALK OF THE LAW'S BODY. Your part is whole_start (and what it stands on); all else here is the same for every law, but numbers. -/
def R_law : String := "SignalWavesLaw"
def lw_P (b : Addr) (xs : List Int32) (args : Array Value) (s : State) : Prop := args = #[.ref b] ∧ s.IntsAt b xs ∧ xs.length ≤ 2560 ∧ (Jvm.Cond.and given_1 narrow_1).before args s = true
def lw_Q (_ : Array Value) (s : State) (o : Outcome) (t : State) : Prop := o = .returned (some (.int 1)) ∧ Framed s o t [] 600000 7302250
def lw_Z (below : List Frame) (a : Array Value) (s : State) : State → Prop := fun t => ∃ o, t.status = .running ∧ Ended t below o ∧ lw_Q a s o t
/-- the law's own end, with 1 on the stack, nothing written that was there before, its room as the claim has it -/
theorem lw_ret {p : Program} {l : Launch} {e : Env} {s : State} {m : MethodId} {below : List Frame} {meth : Method} {c : Code} {b : Nat} (hx : p.tables.exec = Jvm.exec) (hb : c.code = code) (hr : meth.sig.returnType = ret) (hlocks : meth.locks = false) {pc : Nat} {H : Heap} {ls : Array Slot} (hdg : decode code pc = .ok (.ireturn, 1)) : W p l e room_1 s m #[Value.ref b] below meth c H [] 600000 7302250 (lw_Z below #[Value.ref b] s) (F0 m pc ls [.int 1]) := by
  intro T hT X
  obtain ⟨fs, hret, hrun, hended, hW, hframe⟩ := X.leave (v := some (.int 1)) (hlocks := hlocks) (fun h => by rw [hr] at h; cases h)
  have hmeth' : T.vm.method? m = some meth := X.method'
  refine ⟨T.setFrames fs, ?_, .returned (some (.int 1)), hrun, hended, rfl, ⟨_, rfl⟩, hW, hframe⟩
  jvm_step X.here [X.here.top, hx, hb, hdg, hmeth', hr, ret, narrow_b1]
  (try refine ⟨rfl, ?_⟩); (try refine ⟨rfl, ?_⟩)
  first | (intro acts; rw [hret _ acts rfl rfl rfl]) | rw [hret _ _ rfl rfl rfl]
  exact Steps.refl _
/-- what holds at the law's entry: the machine, the code, the tables' words (any of lw_tbl by 'hts w (by decide +kernel)'), the script of L ints xs at the cell b, what the Statement gives of the start (any of its parts by flat_of_before) -/
def lw_At (p : Program) (s : State) (m : MethodId) (meth : Method) (c : Code) (b L : Nat) (xs : Nat → Int32) : Prop :=
  p.tables.exec = Jvm.exec ∧ c.code = code ∧ meth.sig.returnType = ret ∧ c.maxLocals = 4 ∧ s.vm.findClass R_law = some m.cls ∧ (∀ w ∈ lw_tbl, w.before #[Value.ref b] s = true) ∧ va_X b L xs s s.heap ∧ b < s.heap.size ∧ meth.locks = false ∧ (Jvm.Cond.and given_1 narrow_1).before #[Value.ref b] s = true

/-! ===== the start ===== -/
section NP
theorem jinst : ∀ c, c < 10 → Cond.instantiable (jR_ c) (jF_ c) ∈ jTs := by
  intro c hc
  rcases (show c = 0 ∨ c = 1 ∨ c = 2 ∨ c = 3 ∨ c = 4 ∨ c = 5 ∨ c = 6 ∨ c = 7 ∨ c = 8 ∨ c = 9 by omega) with rfl | rfl | rfl | rfl | rfl | rfl | rfl | rfl | rfl | rfl
  · exact in0
  · exact in1
  · exact in2
  · exact in3
  · exact in4
  · exact in5
  · exact in6
  · exact in7
  · exact in8
  · exact in9
theorem jAOA.spec {u : State} (h : jAOA u) : ∃ comp c k, u.vm.classes[c]? = some k ∧ k.kind = .array comp (.array .int) ∧ u.vm.findClass ("[" ++ (FieldType.array .int).toString) = some c := by
  unfold jAOA Cond.before at h
  simp only [Cond.holds, Cond.value, beq_iff_eq] at h
  cases hc : u.vm.findClass (FieldType.array .int).toString with
  | none => simp [hc] at h
  | some comp =>
    simp only [hc, Option.bind_some, Option.bind_eq_some_iff, Option.map_eq_some_iff] at h
    obtain ⟨c, hi, k, hk, hb⟩ := h
    obtain ⟨hlt, hp, -⟩ := Array.findIdx?_eq_some_iff_getElem.mp hi
    have hkk : u.vm.classes[c] = k := (Array.getElem?_eq_some_iff.mp hk).2
    rw [hkk] at hp
    cases hkind : k.kind with
    | array component ty =>
      rw [hkind] at hb hp
      simp at hb hp
      exact ⟨comp, c, k, hk, by rw [hkind, hp, hb.1], hb.2⟩
    | _ => rw [hkind] at hb; simp at hb
theorem jst0 {s : State} {A : Array Value} (hts : ∀ w ∈ lw_tbl, w.before A s = true) (b : Nat) : ∃ (Dv : va_G) (cA : Nat → ClassId), jSt (b, s.heap.size, Dv, cA) s := by
  have hts1 : ∀ w ∈ jTs, w.before A s = true := fun w hw => hts w (List.mem_filter.mp hw).1
  have hk : ∀ c : Nat, ∃ q : ClassId × (Nat → Nat), c < 10 → u_Kn s (jR_ c) (jT_ c) (jF_ c) q.1 q.2 := by
    intro c
    by_cases q : c < 10
    · obtain ⟨cC, iS, h⟩ := u_known (n := jF_ c) hts1 (jin c q) (hts1 _ (jinst c q))
      exact ⟨(cC, iS), fun _ => h⟩
    · exact ⟨(0, fun _ => 0), fun h => absurd h q⟩
  have a0 : va_AO RX0 s := va_AO.of (hts _ (jnem 215 (by decide +kernel)))
  have a6 : va_AO RX6 s := va_AO.of (hts _ (jnem 336 (by decide +kernel)))
  have ai : jAOA s := hts (Cond.arrayOver (.array .int)) (jnem 131 (by decide +kernel))
  obtain ⟨c16, k16, p16, f16, h16, q16⟩ := Cond.arrayClass_spec (hts1 _ jacI)
  obtain ⟨c17, k17, p17, f17, h17, q17⟩ := Cond.arrayClass_spec (hts1 _ jacZ)
  obtain ⟨p18, c18, k18, f18, -, h18, q18, g18⟩ := Cond.arrayOver_spec a0
  obtain ⟨p19, c19, k19, f19, -, h19, q19, g19⟩ := Cond.arrayOver_spec a6
  obtain ⟨p20, c20, k20, h20, q20, g20⟩ := ai.spec
  refine ⟨(fun c => (Classical.choose (hk c)).1, fun c => (Classical.choose (hk c)).2), fun k => if k = 16 then c16 else if k = 17 then c17 else if k = 18 then c18 else if k = 19 then c19 else c20, ⟨fun c q hq => ?_, fun k q hq => ?_⟩, fun w hw hj => ?_, a0, a6, ai⟩
  · by_cases hc : c < 10
    · rw [jcl_get c hc] at hq
      obtain rfl := Option.some.inj hq
      exact Classical.choose_spec (hk c) hc
    · rw [List.getElem?_eq_none (by show 10 ≤ c; omega)] at hq
      cases hq
  · match k, hq with
    | 0, hq => cases hq; exact ⟨fun N z => ⟨fun k h => (by cases h), k16, h16, p16, q16⟩, f16⟩
    | 1, hq => cases hq; exact ⟨fun N z => ⟨fun k h => (by cases h), k17, h17, p17, q17⟩, f17⟩
    | 2, hq => cases hq; exact ⟨fun N z => ⟨fun k h => (by cases h), k18, h18, p18, q18⟩, k18, p18, h18, q18, f18, g18⟩
    | 3, hq => cases hq; exact ⟨fun N z => ⟨fun k h => (by cases h), k19, h19, p19, q19⟩, k19, p19, h19, q19, f19, g19⟩
    | 4, hq => cases hq; exact ⟨fun N z => ⟨fun k h => (by cases h), k20, h20, p20, q20⟩, g20⟩
    | k + 5, hq => simp [jtys] at hq
  · cases w <;> first | exact va_Nw.of rfl (hts _ hw) | (simp [jnest] at hj; done)
/-- the law's whole walk -/
theorem law_all {d L : Nat} {h : jH} (hL : L ≤ 2560) (hN : jN h = 2) (hS : (jS h 1).2 = L) : V ML_law (d + 13 + 13) 0 [some (.inr 1), none, none, none] [] h 502 10202 (fun v _ => v = some (.inl 1)) := by
  refine V_cost (mc' := (473 + 28) + 1) (ms' := (4427 + (5711 + 50)) + 14) rfl rfl ?_
  apply bL_law_0
  case s1 => exact congrArg Prod.fst (if_pos rfl)
  case e1 =>
    rw [hN]
    refine Ex.mono (Ex.scr (eX8_init (CT.new (kd := 8) (n := 14) hN))) ?_
    rintro v g ⟨⟨rfl, hN1, hS8⟩, sc⟩
    refine V_cost (mc' := (27 + 0) + 1) (ms' := (5711 + 0) + 50) rfl rfl ?_
    show V ML_law (d + 13 + 13) 7 [some (.inr 1), none, none, none] [.inr 2] g ((27 + 0) + 1) ((5711 + 0) + 50) _
    apply bL_law_7 (mc1 := 27) (mc := 0) (ms1 := 5711) (ms := 0) (q0 := 2)
    case s1 => exact congrArg Prod.fst (if_pos rfl)
    case e1 =>
      rw [hN1]
      refine Ex.mono (Ex.scr (eX9_init (CT.new (kd := 9) (n := 50) hN1))) ?_
      rintro v g2 ⟨⟨rfl, hN2, sm, hM, e1, e2, e4, e5⟩, sc2⟩
      apply bL_law_15
      have hL2 : (jS g2 1).2 = L := by
        rw [sc2.1]
        show (if 1 = jN g then (9, 50) else jS g 1 : Nat × Nat).2 = L
        rw [hN1, if_neg (by decide), sc.1]
        show (if 1 = jN h then (8, 14) else jS h 1 : Nat × Nat).2 = L
        rw [hN, if_neg (by decide)]
        exact hS
      exact law_loop hL L 0 (by omega) 0 g2 rfl (by omega) (IE_0 (hS8.sm sm) hM e1 e2 e4 e5) hL2
end NP
theorem whole_start {p : Program} {e : Env} {s : State} {m : MethodId} {below : List Frame} {meth : Method} {c : Code} (l : Launch) (hflags : l.flags = flags0) {b L : Nat} {xs : Nat → Int32} (hL : L ≤ 2560) (C0 : lw_At p s m meth c b L xs) : W p l e room_1 s m #[Value.ref b] below meth c s.heap [] 0 0 (lw_Z below #[Value.ref b] s) (entryFrame m ([Value.ref b] : List Value).toArray 4) := by
  obtain ⟨hx, hb, hr, hml, hown, hts, hX, hbl, hlocks, hgv⟩ := id C0
  have hts1 : ∀ w ∈ jTs, w.before #[Value.ref b] s = true := fun w hw => hts w (List.mem_filter.mp hw).1
  obtain ⟨Dv, cA, hst⟩ := jst0 hts b
  generalize hG : ((b, s.heap.size, Dv, cA) : jG) = G at hst
  have gb : jgb G = b := by rw [← hG]
  have gz : jgz G = s.heap.size := by rw [← hG]
  generalize hh : ((fun _ _ => 0, fun _ _ => 0, fun a k => if a = 1 ∧ k < L then (xs k).toInt else 0, fun _ _ => 0, fun a => if a = 1 then (15, L) else (99, 0), 2) : jH) = h0
  have x1 : ∀ k, k < L → jX h0 1 k = (xs k).toInt := fun k hk => by rw [← hh]; exact if_pos ⟨rfl, hk⟩
  have n2 : jN h0 = 2 := by rw [← hh]; rfl
  have s1 : (jS h0 1).2 = L := by rw [← hh]; rfl
  have hok : jOk G h0 s.heap s.heap [] s := by
    refine ⟨?_, hst, ?_, va_S.rf, by rw [gz, n2]; rfl, by rw [gb, gz]; exact hbl, Nat.le_of_eq gz, ?_⟩
    · rw [← hh]
      refine ⟨Nat.le_refl 2, fun a k => jR_0, fun a k => ?_, rfl, rfl, fun a ha => ?_, fun a => ?_⟩
      · show jR (if a = 1 ∧ k < L then (xs k).toInt else 0)
        split
        · exact jR_of _
        · exact jR_0
      · have ha : 2 ≤ a := ha
        show (if a = 1 then (15, L) else (99, 0) : Nat × Nat).1 = 99
        rw [if_neg (by omega)]
      · show (if a = 1 then (15, L) else (99, 0) : Nat × Nat).2 < 2147483648
        split
        · show L < 2147483648; omega
        · show 0 < 2147483648; decide
    · intro k q hq
      unfold jW at hq
      rw [n2] at hq
      cases hq
    · rw [gb, s1]
      obtain ⟨scr, y1, y2, y3, y4, y5⟩ := hX
      refine ⟨scr, y1, y2, y3, y4, fun j hj => ?_⟩
      show scr.slots[j]? = some (.int (Int32.ofInt (jX h0 1 j)))
      rw [x1 j hj, Int32.ofInt_toInt]
      exact y5 j hj
  have hl0 := lv_entry ([Value.ref b]) (n := 4) (Nat.le_of_ble_eq_true rfl)
  rw [lg_entry_eq]
  have hls : jLs G ((lg_sl ([Value.ref b]) ++ List.replicate (4 - (lg_sl ([Value.ref b])).length) Slot.unset).toArray) 4 [some (.inr 1), none, none, none] := by
    refine ⟨hl0.1, hl0.2.1, rfl, fun i v hi => ?_⟩
    match i, hi with
    | 0, hi =>
      have e : v = .inr 1 := (Option.some.inj (Option.some.inj hi)).symm
      subst e
      refine ⟨?_, trivial⟩
      show _ = some (Slot.val (va_rf (some (jgb G))))
      rw [gb]
      rfl
    | 1, hi => cases hi
    | 2, hi => cases hi
    | 3, hi => cases hi
    | i + 4, hi => simp at hi
  refine law_all (d := 0) hL n2 s1 p l e room_1 s m #[Value.ref b] below meth c G 502 10202 (lw_Z below #[Value.ref b] s) s.heap [] 0 0 _ ⟨hx, hb, hml, hown, hts1, fun q => absurd q (by decide), Nat.le_of_ble_eq_true rfl, Nat.le_of_ble_eq_true rfl, Nat.le_of_ble_eq_true rfl, Nat.le_of_ble_eq_true rfl, ?_⟩ hok hls (fun v hv => by cases hv) rfl rfl rfl
  intro v h' H' locs' pc' ls' hQ hok' hret hz' hdg
  subst hQ
  refine va_forget (fun q hq => by have := hok'.2.2.2.1.2.2 q hq; rw [← gz]; exact this) ?_
  refine W.widen (k := 600000) (n := 7302250) (Nat.le_of_ble_eq_true rfl) (Nat.le_of_ble_eq_true rfl) ?_
  exact lw_ret hx hb hr hlocks hdg
