/-! ===== a rule an instruction, over V ===== -/
section JR
variable {M : jM} {d pc mc ms : Nat} {L : List (Option jA)} {st : List jA} {h : jH} {Q : Option jA → jH → Prop}
theorem jst_cons {v : jA} {st : List jA} (hv : jRA v) (h : ∀ x ∈ st, jRA x) : ∀ x ∈ v :: st, jRA x := fun x hx => (List.mem_cons.mp hx).elim (fun e => by rw [e]; exact hv) (h x)
theorem jst_tl {v : jA} {st : List jA} (h : ∀ x ∈ v :: st, jRA x) : ∀ x ∈ st, jRA x := fun x hx => h x (List.mem_cons_of_mem _ hx)
theorem jst_hd {v : jA} {st : List jA} (h : ∀ x ∈ v :: st, jRA x) : jRA v := h v List.mem_cons_self
theorem V_iconst {n : Int} (hd : decode (jmC M) pc = .ok (.iconst n, 1)) (hn : jR n)
    (k : V M d (pc + 1) L (.inl n :: st) h mc ms Q) : V M d pc L st h mc ms Q := by
  intro p l e R s m args below meth c G MC MS Z H locs cells slots ls cx hok hls hst hc hs hz
  obtain ⟨hx, hb, hml, hown, hts, hnm, hfr, hlo, hMC, hMS, hZ⟩ := id cx
  exact lv_iconst hx hb hd rfl (k p l e R s m args below meth c G MC MS Z H locs cells slots ls cx hok hls (jst_cons hn hst) hc hs hz)
theorem V_bipush {n : Int} (hd : decode (jmC M) pc = .ok (.bipush n, 2)) (hv : (Int8.ofInt n).toInt32 = Int32.ofInt n) (hn : jR n)
    (k : V M d (pc + 2) L (.inl n :: st) h mc ms Q) : V M d pc L st h mc ms Q := by
  intro p l e R s m args below meth c G MC MS Z H locs cells slots ls cx hok hls hst hc hs hz
  obtain ⟨hx, hb, hml, hown, hts, hnm, hfr, hlo, hMC, hMS, hZ⟩ := id cx
  exact lv_bipush hx hb hd hv (k p l e R s m args below meth c G MC MS Z H locs cells slots ls cx hok hls (jst_cons hn hst) hc hs hz)
theorem V_sipush {n : Int} (hd : decode (jmC M) pc = .ok (.sipush n, 3)) (hv : (Int16.ofInt n).toInt32 = Int32.ofInt n) (hn : jR n)
    (k : V M d (pc + 3) L (.inl n :: st) h mc ms Q) : V M d pc L st h mc ms Q := by
  intro p l e R s m args below meth c G MC MS Z H locs cells slots ls cx hok hls hst hc hs hz
  obtain ⟨hx, hb, hml, hown, hts, hnm, hfr, hlo, hMC, hMS, hZ⟩ := id cx
  exact lv_sipush hx hb hd hv (k p l e R s m args below meth c G MC MS Z H locs cells slots ls cx hok hls (jst_cons hn hst) hc hs hz)
theorem V_ldcw {i : Nat} {n : Int} (hd : decode (jmC M) pc = .ok (.ldc_w i, 3)) (hw : Cond.constant (jmO M) i (Int32.ofInt n) ∈ jTs) (hn : jR n)
    (k : V M d (pc + 3) L (.inl n :: st) h mc ms Q) : V M d pc L st h mc ms Q := by
  intro p l e R s m args below meth c G MC MS Z H locs cells slots ls cx hok hls hst hc hs hz
  obtain ⟨hx, hb, hml, hown, hts, hnm, hfr, hlo, hMC, hMS, hZ⟩ := id cx
  exact lv_ldcw hx hb hown (hts _ hw) hd (k p l e R s m args below meth c G MC MS Z H locs cells slots ls cx hok hls (jst_cons hn hst) hc hs hz)
theorem V_iload_n {k0 : Fin 4} {i : Nat} {z : Int} (hd : decode (jmC M) pc = .ok (.iload_n k0, 1)) (hi : (k0 : Nat) = i) (hl : L[i]? = some (some (.inl z)))
    (k : V M d (pc + 1) L (.inl z :: st) h mc ms Q) : V M d pc L st h mc ms Q := by
  intro p l e R s m args below meth c G MC MS Z H locs cells slots ls cx hok hls hst hc hs hz
  obtain ⟨hx, hb, hml, hown, hts, hnm, hfr, hlo, hMC, hMS, hZ⟩ := id cx
  exact lv_iload_n hx hb hd hi (hls.2.2.2 i _ hl).1 (k p l e R s m args below meth c G MC MS Z H locs cells slots ls cx hok hls (jst_cons (hls.2.2.2 i _ hl).2 hst) hc hs hz)
theorem V_iload {i : Nat} {z : Int} (hd : decode (jmC M) pc = .ok (.iload i, 2)) (hl : L[i]? = some (some (.inl z)))
    (k : V M d (pc + 2) L (.inl z :: st) h mc ms Q) : V M d pc L st h mc ms Q := by
  intro p l e R s m args below meth c G MC MS Z H locs cells slots ls cx hok hls hst hc hs hz
  obtain ⟨hx, hb, hml, hown, hts, hnm, hfr, hlo, hMC, hMS, hZ⟩ := id cx
  exact lv_iload hx hb hd (hls.2.2.2 i _ hl).1 (k p l e R s m args below meth c G MC MS Z H locs cells slots ls cx hok hls (jst_cons (hls.2.2.2 i _ hl).2 hst) hc hs hz)
theorem V_aload_n {k0 : Fin 4} {i a : Nat} (hd : decode (jmC M) pc = .ok (.aload_n k0, 1)) (hi : (k0 : Nat) = i) (hl : L[i]? = some (some (.inr a)))
    (k : V M d (pc + 1) L (.inr a :: st) h mc ms Q) : V M d pc L st h mc ms Q := by
  intro p l e R s m args below meth c G MC MS Z H locs cells slots ls cx hok hls hst hc hs hz
  obtain ⟨hx, hb, hml, hown, hts, hnm, hfr, hlo, hMC, hMS, hZ⟩ := id cx
  have h1 := (hls.2.2.2 i _ hl).1
  have k1 := k p l e R s m args below meth c G MC MS Z H locs cells slots ls cx hok hls (jst_cons (v := .inr a) trivial hst) hc hs hz
  rw [List.map_cons] at k1
  cases hr : jrf G a with
  | none =>
    have e1 : jV G (.inr a) = .null := by show va_rf (jrf G a) = _; rw [hr]; rfl
    rw [e1] at h1 k1
    exact lv_aload_nN hx hb hd hi h1 k1
  | some r =>
    have e1 : jV G (.inr a) = .ref r := by show va_rf (jrf G a) = _; rw [hr]; rfl
    rw [e1] at h1 k1
    exact lv_aload_n hx hb hd hi h1 k1
theorem V_aload {i a : Nat} (hd : decode (jmC M) pc = .ok (.aload i, 2)) (hl : L[i]? = some (some (.inr a)))
    (k : V M d (pc + 2) L (.inr a :: st) h mc ms Q) : V M d pc L st h mc ms Q := by
  intro p l e R s m args below meth c G MC MS Z H locs cells slots ls cx hok hls hst hc hs hz
  obtain ⟨hx, hb, hml, hown, hts, hnm, hfr, hlo, hMC, hMS, hZ⟩ := id cx
  have h1 := (hls.2.2.2 i _ hl).1
  have k1 := k p l e R s m args below meth c G MC MS Z H locs cells slots ls cx hok hls (jst_cons (v := .inr a) trivial hst) hc hs hz
  rw [List.map_cons] at k1
  cases hr : jrf G a with
  | none =>
    have e1 : jV G (.inr a) = .null := by show va_rf (jrf G a) = _; rw [hr]; rfl
    rw [e1] at h1 k1
    exact lv_aloadN hx hb hd h1 k1
  | some r =>
    have e1 : jV G (.inr a) = .ref r := by show va_rf (jrf G a) = _; rw [hr]; rfl
    rw [e1] at h1 k1
    exact lv_aload hx hb hd h1 k1
theorem V_istore_n {k0 : Fin 4} {i : Nat} {z : Int} (hd : decode (jmC M) pc = .ok (.istore_n k0, 1)) (hi : (k0 : Nat) = i) (hn : i < jmL M)
    (k : V M d (pc + 1) (L.set i (some (.inl z))) st h mc ms Q) : V M d pc L (.inl z :: st) h mc ms Q := by
  intro p l e R s m args below meth c G MC MS Z H locs cells slots ls cx hok hls hst hc hs hz
  obtain ⟨hx, hb, hml, hown, hts, hnm, hfr, hlo, hMC, hMS, hZ⟩ := id cx
  exact lv_istore_n hx hb hd hi (jLs_has hls) hn rfl (fun ls' h' => k p l e R s m args below meth c G MC MS Z H locs cells slots ls' cx hok (jLs_set hls hn (jst_hd hst) h') (jst_tl hst) hc hs hz)
theorem V_istore {i : Nat} {z : Int} (hd : decode (jmC M) pc = .ok (.istore i, 2)) (hn : i < jmL M)
    (k : V M d (pc + 2) (L.set i (some (.inl z))) st h mc ms Q) : V M d pc L (.inl z :: st) h mc ms Q := by
  intro p l e R s m args below meth c G MC MS Z H locs cells slots ls cx hok hls hst hc hs hz
  obtain ⟨hx, hb, hml, hown, hts, hnm, hfr, hlo, hMC, hMS, hZ⟩ := id cx
  exact lv_istore hx hb hd (jLs_has hls) hn rfl (fun ls' h' => k p l e R s m args below meth c G MC MS Z H locs cells slots ls' cx hok (jLs_set hls hn (jst_hd hst) h') (jst_tl hst) hc hs hz)
theorem V_astore_n {k0 : Fin 4} {i : Nat} {a : Nat} (hd : decode (jmC M) pc = .ok (.astore_n k0, 1)) (hi : (k0 : Nat) = i) (hn : i < jmL M)
    (k : V M d (pc + 1) (L.set i (some (.inr a))) st h mc ms Q) : V M d pc L (.inr a :: st) h mc ms Q := by
  intro p l e R s m args below meth c G MC MS Z H locs cells slots ls cx hok hls hst hc hs hz
  obtain ⟨hx, hb, hml, hown, hts, hnm, hfr, hlo, hMC, hMS, hZ⟩ := id cx
  rw [List.map_cons]
  cases hr : jrf G a with
  | none =>
    have e1 : jV G (.inr a) = .null := by show va_rf (jrf G a) = _; rw [hr]; rfl
    rw [e1]
    exact lv_astore_nN hx hb hd hi (jLs_has hls) hn rfl (fun ls' h' => k p l e R s m args below meth c G MC MS Z H locs cells slots ls' cx hok (jLs_set hls hn (v := .inr a) trivial (by rw [e1]; exact h')) (jst_tl hst) hc hs hz)
  | some r =>
    have e1 : jV G (.inr a) = .ref r := by show va_rf (jrf G a) = _; rw [hr]; rfl
    rw [e1]
    exact lv_astore_n hx hb hd hi (jLs_has hls) hn rfl (fun ls' h' => k p l e R s m args below meth c G MC MS Z H locs cells slots ls' cx hok (jLs_set hls hn (v := .inr a) trivial (by rw [e1]; exact h')) (jst_tl hst) hc hs hz)
theorem V_astore {i : Nat} {a : Nat} (hd : decode (jmC M) pc = .ok (.astore i, 2)) (hn : i < jmL M)
    (k : V M d (pc + 2) (L.set i (some (.inr a))) st h mc ms Q) : V M d pc L (.inr a :: st) h mc ms Q := by
  intro p l e R s m args below meth c G MC MS Z H locs cells slots ls cx hok hls hst hc hs hz
  obtain ⟨hx, hb, hml, hown, hts, hnm, hfr, hlo, hMC, hMS, hZ⟩ := id cx
  rw [List.map_cons]
  cases hr : jrf G a with
  | none =>
    have e1 : jV G (.inr a) = .null := by show va_rf (jrf G a) = _; rw [hr]; rfl
    rw [e1]
    exact lv_astoreN hx hb hd (jLs_has hls) hn rfl (fun ls' h' => k p l e R s m args below meth c G MC MS Z H locs cells slots ls' cx hok (jLs_set hls hn (v := .inr a) trivial (by rw [e1]; exact h')) (jst_tl hst) hc hs hz)
  | some r =>
    have e1 : jV G (.inr a) = .ref r := by show va_rf (jrf G a) = _; rw [hr]; rfl
    rw [e1]
    exact lv_astore hx hb hd (jLs_has hls) hn rfl (fun ls' h' => k p l e R s m args below meth c G MC MS Z H locs cells slots ls' cx hok (jLs_set hls hn (v := .inr a) trivial (by rw [e1]; exact h')) (jst_tl hst) hc hs hz)
theorem V_iinc {i : Nat} {n z : Int} (hd : decode (jmC M) pc = .ok (.iinc i n, 3)) (hl : L[i]? = some (some (.inl z))) (hn : i < jmL M) (hr : jR (z + n))
    (k : V M d (pc + 3) (L.set i (some (.inl (z + n)))) st h mc ms Q) : V M d pc L st h mc ms Q := by
  intro p l e R s m args below meth c G MC MS Z H locs cells slots ls cx hok hls hst hc hs hz
  obtain ⟨hx, hb, hml, hown, hts, hnm, hfr, hlo, hMC, hMS, hZ⟩ := id cx
  have h0 := jLs_has hls
  have h1 : lv_has ls (jmL M) ((i, .int (Int32.ofInt z)) :: jasc G L) := ⟨h0.1, h0.2.1, fun q hq => (List.mem_cons.mp hq).elim (fun e => by rw [e]; exact (hls.2.2.2 i _ hl).1) (h0.2.2 q)⟩
  refine lv_iinc (k := 0) (v := Int32.ofInt (z + n)) hx hb hd h1 rfl (by rw [Int32.ofInt_add]) hn rfl (fun ls' h' => ?_)
  have h2 : lv_has ls' (jmL M) ((i, jV G (.inl (z + n))) :: (jasc G L).filter (fun q => !(q.1 == i) && !(q.1 + 1 == i && q.2.category == 2))) := by
    refine ⟨h'.1, h'.2.1, fun q hq => h'.2.2 q ?_⟩
    rcases List.mem_cons.mp hq with e | e
    · exact List.mem_cons.mpr (Or.inl e)
    · refine List.mem_cons_of_mem _ ?_
      obtain ⟨e1, e2⟩ := List.mem_filter.mp e
      exact List.mem_filter.mpr ⟨List.mem_cons_of_mem _ e1, e2⟩
  exact k p l e R s m args below meth c G MC MS Z H locs cells slots ls' cx hok (jLs_set hls hn hr h2) hst hc hs hz
theorem V_iadd {x y : Int} (hd : decode (jmC M) pc = .ok (.iadd, 1)) (hr : jR (x + y))
    (k : V M d (pc + 1) L (.inl (x + y) :: st) h mc ms Q) : V M d pc L (.inl y :: .inl x :: st) h mc ms Q := by
  intro p l e R s m args below meth c G MC MS Z H locs cells slots ls cx hok hls hst hc hs hz
  obtain ⟨hx, hb, hml, hown, hts, hnm, hfr, hlo, hMC, hMS, hZ⟩ := id cx
  have k1 := k p l e R s m args below meth c G MC MS Z H locs cells slots ls cx hok hls (jst_cons hr (jst_tl (jst_tl hst))) hc hs hz
  rw [List.map_cons, show jV G (.inl (x + y)) = .int (Int32.ofInt x + Int32.ofInt y) by show Value.int _ = _; rw [Int32.ofInt_add]] at k1
  exact lv_iadd hx hb hd k1
theorem V_isub {x y : Int} (hd : decode (jmC M) pc = .ok (.isub, 1)) (hr : jR (x - y))
    (k : V M d (pc + 1) L (.inl (x - y) :: st) h mc ms Q) : V M d pc L (.inl y :: .inl x :: st) h mc ms Q := by
  intro p l e R s m args below meth c G MC MS Z H locs cells slots ls cx hok hls hst hc hs hz
  obtain ⟨hx, hb, hml, hown, hts, hnm, hfr, hlo, hMC, hMS, hZ⟩ := id cx
  have k1 := k p l e R s m args below meth c G MC MS Z H locs cells slots ls cx hok hls (jst_cons hr (jst_tl (jst_tl hst))) hc hs hz
  rw [List.map_cons, show jV G (.inl (x - y)) = .int (Int32.ofInt x - Int32.ofInt y) by show Value.int _ = _; rw [Int32.ofInt_sub]] at k1
  exact lv_isub hx hb hd k1
theorem V_imul {x y : Int} (hd : decode (jmC M) pc = .ok (.imul, 1)) (hr : jR (x * y))
    (k : V M d (pc + 1) L (.inl (x * y) :: st) h mc ms Q) : V M d pc L (.inl y :: .inl x :: st) h mc ms Q := by
  intro p l e R s m args below meth c G MC MS Z H locs cells slots ls cx hok hls hst hc hs hz
  obtain ⟨hx, hb, hml, hown, hts, hnm, hfr, hlo, hMC, hMS, hZ⟩ := id cx
  have k1 := k p l e R s m args below meth c G MC MS Z H locs cells slots ls cx hok hls (jst_cons hr (jst_tl (jst_tl hst))) hc hs hz
  rw [List.map_cons, show jV G (.inl (x * y)) = .int (Int32.ofInt x * Int32.ofInt y) by show Value.int _ = _; rw [Int32.ofInt_mul]] at k1
  exact lv_imul hx hb hd k1
def jand (x y : Int) : Int := (Int32.ofInt x &&& Int32.ofInt y).toInt
def jor (x y : Int) : Int := (Int32.ofInt x ||| Int32.ofInt y).toInt
def jxor (x y : Int) : Int := (Int32.ofInt x ^^^ Int32.ofInt y).toInt
def jshl (x y : Int) : Int := (Int32.ofInt x <<< (Int32.ofInt y &&& 31)).toInt
def jshr (x y : Int) : Int := (Int32.ofInt x >>> (Int32.ofInt y &&& 31)).toInt
def jushr (x y : Int) : Int := (((Int32.ofInt x).toUInt32 >>> ((Int32.ofInt y).toUInt32 &&& Int32.toUInt32 31)).toInt32).toInt
theorem V_iand {x y : Int} (hd : decode (jmC M) pc = .ok (.iand, 1))
    (k : V M d (pc + 1) L (.inl (jand x y) :: st) h mc ms Q) : V M d pc L (.inl y :: .inl x :: st) h mc ms Q := by
  intro p l e R s m args below meth c G MC MS Z H locs cells slots ls cx hok hls hst hc hs hz
  obtain ⟨hx, hb, hml, hown, hts, hnm, hfr, hlo, hMC, hMS, hZ⟩ := id cx
  have k1 := k p l e R s m args below meth c G MC MS Z H locs cells slots ls cx hok hls (jst_cons (v := .inl (jand x y)) (jR_of _) (jst_tl (jst_tl hst))) hc hs hz
  rw [List.map_cons, show jV G (.inl (jand x y)) = .int (Int32.ofInt x &&& Int32.ofInt y) by show Value.int (Int32.ofInt (jand x y)) = _; unfold jand; rw [Int32.ofInt_toInt]] at k1
  exact lv_iand hx hb hd k1
theorem V_ior {x y : Int} (hd : decode (jmC M) pc = .ok (.ior, 1))
    (k : V M d (pc + 1) L (.inl (jor x y) :: st) h mc ms Q) : V M d pc L (.inl y :: .inl x :: st) h mc ms Q := by
  intro p l e R s m args below meth c G MC MS Z H locs cells slots ls cx hok hls hst hc hs hz
  obtain ⟨hx, hb, hml, hown, hts, hnm, hfr, hlo, hMC, hMS, hZ⟩ := id cx
  have k1 := k p l e R s m args below meth c G MC MS Z H locs cells slots ls cx hok hls (jst_cons (v := .inl (jor x y)) (jR_of _) (jst_tl (jst_tl hst))) hc hs hz
  rw [List.map_cons, show jV G (.inl (jor x y)) = .int (Int32.ofInt x ||| Int32.ofInt y) by show Value.int (Int32.ofInt (jor x y)) = _; unfold jor; rw [Int32.ofInt_toInt]] at k1
  exact lv_ior hx hb hd k1
theorem V_ixor {x y : Int} (hd : decode (jmC M) pc = .ok (.ixor, 1))
    (k : V M d (pc + 1) L (.inl (jxor x y) :: st) h mc ms Q) : V M d pc L (.inl y :: .inl x :: st) h mc ms Q := by
  intro p l e R s m args below meth c G MC MS Z H locs cells slots ls cx hok hls hst hc hs hz
  obtain ⟨hx, hb, hml, hown, hts, hnm, hfr, hlo, hMC, hMS, hZ⟩ := id cx
  have k1 := k p l e R s m args below meth c G MC MS Z H locs cells slots ls cx hok hls (jst_cons (v := .inl (jxor x y)) (jR_of _) (jst_tl (jst_tl hst))) hc hs hz
  rw [List.map_cons, show jV G (.inl (jxor x y)) = .int (Int32.ofInt x ^^^ Int32.ofInt y) by show Value.int (Int32.ofInt (jxor x y)) = _; unfold jxor; rw [Int32.ofInt_toInt]] at k1
  exact lv_ixor hx hb hd k1
theorem V_ishl {x y : Int} (hd : decode (jmC M) pc = .ok (.ishl, 1))
    (k : V M d (pc + 1) L (.inl (jshl x y) :: st) h mc ms Q) : V M d pc L (.inl y :: .inl x :: st) h mc ms Q := by
  intro p l e R s m args below meth c G MC MS Z H locs cells slots ls cx hok hls hst hc hs hz
  obtain ⟨hx, hb, hml, hown, hts, hnm, hfr, hlo, hMC, hMS, hZ⟩ := id cx
  have k1 := k p l e R s m args below meth c G MC MS Z H locs cells slots ls cx hok hls (jst_cons (v := .inl (jshl x y)) (jR_of _) (jst_tl (jst_tl hst))) hc hs hz
  rw [List.map_cons, show jV G (.inl (jshl x y)) = .int (Int32.ofInt x <<< (Int32.ofInt y &&& 31)) by show Value.int (Int32.ofInt (jshl x y)) = _; unfold jshl; rw [Int32.ofInt_toInt]] at k1
  exact lv_ishl hx hb hd k1
theorem V_ishr {x y : Int} (hd : decode (jmC M) pc = .ok (.ishr, 1))
    (k : V M d (pc + 1) L (.inl (jshr x y) :: st) h mc ms Q) : V M d pc L (.inl y :: .inl x :: st) h mc ms Q := by
  intro p l e R s m args below meth c G MC MS Z H locs cells slots ls cx hok hls hst hc hs hz
  obtain ⟨hx, hb, hml, hown, hts, hnm, hfr, hlo, hMC, hMS, hZ⟩ := id cx
  have k1 := k p l e R s m args below meth c G MC MS Z H locs cells slots ls cx hok hls (jst_cons (v := .inl (jshr x y)) (jR_of _) (jst_tl (jst_tl hst))) hc hs hz
  rw [List.map_cons, show jV G (.inl (jshr x y)) = .int (Int32.ofInt x >>> (Int32.ofInt y &&& 31)) by show Value.int (Int32.ofInt (jshr x y)) = _; unfold jshr; rw [Int32.ofInt_toInt]] at k1
  exact lv_ishr hx hb hd k1
theorem V_iushr {x y : Int} (hd : decode (jmC M) pc = .ok (.iushr, 1))
    (k : V M d (pc + 1) L (.inl (jushr x y) :: st) h mc ms Q) : V M d pc L (.inl y :: .inl x :: st) h mc ms Q := by
  intro p l e R s m args below meth c G MC MS Z H locs cells slots ls cx hok hls hst hc hs hz
  obtain ⟨hx, hb, hml, hown, hts, hnm, hfr, hlo, hMC, hMS, hZ⟩ := id cx
  have k1 := k p l e R s m args below meth c G MC MS Z H locs cells slots ls cx hok hls (jst_cons (v := .inl (jushr x y)) (jR_of _) (jst_tl (jst_tl hst))) hc hs hz
  rw [List.map_cons, show jV G (.inl (jushr x y)) = .int (((Int32.ofInt x).toUInt32 >>> ((Int32.ofInt y).toUInt32 &&& Int32.toUInt32 31)).toInt32) by show Value.int (Int32.ofInt (jushr x y)) = _; unfold jushr; rw [Int32.ofInt_toInt]] at k1
  exact lv_iushr hx hb hd rfl k1
theorem V_ineg {x : Int} (hd : decode (jmC M) pc = .ok (.ineg, 1)) (hr : jR (-x))
    (k : V M d (pc + 1) L (.inl (-x) :: st) h mc ms Q) : V M d pc L (.inl x :: st) h mc ms Q := by
  intro p l e R s m args below meth c G MC MS Z H locs cells slots ls cx hok hls hst hc hs hz
  obtain ⟨hx, hb, hml, hown, hts, hnm, hfr, hlo, hMC, hMS, hZ⟩ := id cx
  have k1 := k p l e R s m args below meth c G MC MS Z H locs cells slots ls cx hok hls (jst_cons hr (jst_tl hst)) hc hs hz
  rw [List.map_cons, show jV G (.inl (-x)) = .int (-Int32.ofInt x) by show Value.int _ = _; rw [Int32.ofInt_neg]] at k1
  exact lv_ineg hx hb hd k1
theorem V_dup {v : jA} (hd : decode (jmC M) pc = .ok (.dup, 1))
    (k : V M d (pc + 1) L (v :: v :: st) h mc ms Q) : V M d pc L (v :: st) h mc ms Q := by
  intro p l e R s m args below meth c G MC MS Z H locs cells slots ls cx hok hls hst hc hs hz
  obtain ⟨hx, hb, hml, hown, hts, hnm, hfr, hlo, hMC, hMS, hZ⟩ := id cx
  exact lv_dup hx hb hd (jV_cat G v) (k p l e R s m args below meth c G MC MS Z H locs cells slots ls cx hok hls (jst_cons (jst_hd hst) hst) hc hs hz)
theorem V_dup2 {v u : jA} (hd : decode (jmC M) pc = .ok (.dup2, 1))
    (k : V M d (pc + 1) L (v :: u :: v :: u :: st) h mc ms Q) : V M d pc L (v :: u :: st) h mc ms Q := by
  intro p l e R s m args below meth c G MC MS Z H locs cells slots ls cx hok hls hst hc hs hz
  obtain ⟨hx, hb, hml, hown, hts, hnm, hfr, hlo, hMC, hMS, hZ⟩ := id cx
  exact lv_dup2_11 hx hb hd (jV_cat G v) (jV_cat G u) (k p l e R s m args below meth c G MC MS Z H locs cells slots ls cx hok hls (jst_cons (jst_hd hst) (jst_cons (jst_hd (jst_tl hst)) hst)) hc hs hz)
theorem V_pop {v : jA} (hd : decode (jmC M) pc = .ok (.pop, 1))
    (k : V M d (pc + 1) L st h mc ms Q) : V M d pc L (v :: st) h mc ms Q := by
  intro p l e R s m args below meth c G MC MS Z H locs cells slots ls cx hok hls hst hc hs hz
  obtain ⟨hx, hb, hml, hown, hts, hnm, hfr, hlo, hMC, hMS, hZ⟩ := id cx
  exact lv_pop hx hb hd (jV_cat G v) (k p l e R s m args below meth c G MC MS Z H locs cells slots ls cx hok hls (jst_tl hst) hc hs hz)
theorem V_goto {off : Int} {tgt : Nat} (hd : decode (jmC M) pc = .ok (.goto off, 3)) (ht : (pc : Int) + off = (tgt : Int))
    (k : V M d tgt L st h mc ms Q) : V M d pc L st h mc ms Q := by
  intro p l e R s m args below meth c G MC MS Z H locs cells slots ls cx hok hls hst hc hs hz
  obtain ⟨hx, hb, hml, hown, hts, hnm, hfr, hlo, hMC, hMS, hZ⟩ := id cx
  exact lv_goto hx hb hd ht (k p l e R s m args below meth c G MC MS Z H locs cells slots ls cx hok hls hst hc hs hz)
theorem V_icmp_eq {x y : Int} {off : Int} {tgt : Nat} (hd : decode (jmC M) pc = .ok (.if_icmp .eq off, 3)) (ht : (pc : Int) + off = (tgt : Int))
    (kt : x = y → V M d tgt L st h mc ms Q) (kf : ¬ (x = y) → V M d (pc + 3) L st h mc ms Q) : V M d pc L (.inl y :: .inl x :: st) h mc ms Q := by
  intro p l e R s m args below meth c G MC MS Z H locs cells slots ls cx hok hls hst hc hs hz
  obtain ⟨hx, hb, hml, hown, hts, hnm, hfr, hlo, hMC, hMS, hZ⟩ := id cx
  have hy1 : jR y := jst_hd hst
  have hx1 : jR x := jst_hd (jst_tl hst)
  exact lv_icmp_eq hx hb hd ht (fun q => kt ((jR_eq hx1 hy1).mp q) p l e R s m args below meth c G MC MS Z H locs cells slots ls cx hok hls (jst_tl (jst_tl hst)) hc hs hz) (fun q => kf (fun z => q ((jR_eq hx1 hy1).mpr z)) p l e R s m args below meth c G MC MS Z H locs cells slots ls cx hok hls (jst_tl (jst_tl hst)) hc hs hz)
theorem V_if_eq {x : Int} {off : Int} {tgt : Nat} (hd : decode (jmC M) pc = .ok (.ifCond .eq off, 3)) (ht : (pc : Int) + off = (tgt : Int))
    (kt : x = 0 → V M d tgt L st h mc ms Q) (kf : ¬ (x = 0) → V M d (pc + 3) L st h mc ms Q) : V M d pc L (.inl x :: st) h mc ms Q := by
  intro p l e R s m args below meth c G MC MS Z H locs cells slots ls cx hok hls hst hc hs hz
  obtain ⟨hx, hb, hml, hown, hts, hnm, hfr, hlo, hMC, hMS, hZ⟩ := id cx
  have hx1 : jR x := jst_hd hst
  exact lv_if_eq hx hb hd ht (fun q => kt ((jR_eq hx1 jR_0).mp q) p l e R s m args below meth c G MC MS Z H locs cells slots ls cx hok hls (jst_tl hst) hc hs hz) (fun q => kf (fun z => q ((jR_eq hx1 jR_0).mpr z)) p l e R s m args below meth c G MC MS Z H locs cells slots ls cx hok hls (jst_tl hst) hc hs hz)
theorem V_icmp_ne {x y : Int} {off : Int} {tgt : Nat} (hd : decode (jmC M) pc = .ok (.if_icmp .ne off, 3)) (ht : (pc : Int) + off = (tgt : Int))
    (kt : x ≠ y → V M d tgt L st h mc ms Q) (kf : x = y → V M d (pc + 3) L st h mc ms Q) : V M d pc L (.inl y :: .inl x :: st) h mc ms Q := by
  intro p l e R s m args below meth c G MC MS Z H locs cells slots ls cx hok hls hst hc hs hz
  obtain ⟨hx, hb, hml, hown, hts, hnm, hfr, hlo, hMC, hMS, hZ⟩ := id cx
  have hy1 : jR y := jst_hd hst
  have hx1 : jR x := jst_hd (jst_tl hst)
  exact lv_icmp_ne hx hb hd ht (fun q => kt ((not_congr (jR_eq hx1 hy1)).mp q) p l e R s m args below meth c G MC MS Z H locs cells slots ls cx hok hls (jst_tl (jst_tl hst)) hc hs hz) (fun q => kf ((jR_eq hx1 hy1).mp q) p l e R s m args below meth c G MC MS Z H locs cells slots ls cx hok hls (jst_tl (jst_tl hst)) hc hs hz)
theorem V_if_ne {x : Int} {off : Int} {tgt : Nat} (hd : decode (jmC M) pc = .ok (.ifCond .ne off, 3)) (ht : (pc : Int) + off = (tgt : Int))
    (kt : x ≠ 0 → V M d tgt L st h mc ms Q) (kf : x = 0 → V M d (pc + 3) L st h mc ms Q) : V M d pc L (.inl x :: st) h mc ms Q := by
  intro p l e R s m args below meth c G MC MS Z H locs cells slots ls cx hok hls hst hc hs hz
  obtain ⟨hx, hb, hml, hown, hts, hnm, hfr, hlo, hMC, hMS, hZ⟩ := id cx
  have hx1 : jR x := jst_hd hst
  exact lv_if_ne hx hb hd ht (fun q => kt ((not_congr (jR_eq hx1 jR_0)).mp q) p l e R s m args below meth c G MC MS Z H locs cells slots ls cx hok hls (jst_tl hst) hc hs hz) (fun q => kf ((jR_eq hx1 jR_0).mp q) p l e R s m args below meth c G MC MS Z H locs cells slots ls cx hok hls (jst_tl hst) hc hs hz)
theorem V_icmp_lt {x y : Int} {off : Int} {tgt : Nat} (hd : decode (jmC M) pc = .ok (.if_icmp .lt off, 3)) (ht : (pc : Int) + off = (tgt : Int))
    (kt : x < y → V M d tgt L st h mc ms Q) (kf : ¬ (x < y) → V M d (pc + 3) L st h mc ms Q) : V M d pc L (.inl y :: .inl x :: st) h mc ms Q := by
  intro p l e R s m args below meth c G MC MS Z H locs cells slots ls cx hok hls hst hc hs hz
  obtain ⟨hx, hb, hml, hown, hts, hnm, hfr, hlo, hMC, hMS, hZ⟩ := id cx
  have hy1 : jR y := jst_hd hst
  have hx1 : jR x := jst_hd (jst_tl hst)
  exact lv_icmp_lt hx hb hd ht (fun q => kt ((jR_lt hx1 hy1).mp q) p l e R s m args below meth c G MC MS Z H locs cells slots ls cx hok hls (jst_tl (jst_tl hst)) hc hs hz) (fun q => kf (fun z => q ((jR_lt hx1 hy1).mpr z)) p l e R s m args below meth c G MC MS Z H locs cells slots ls cx hok hls (jst_tl (jst_tl hst)) hc hs hz)
theorem V_if_lt {x : Int} {off : Int} {tgt : Nat} (hd : decode (jmC M) pc = .ok (.ifCond .lt off, 3)) (ht : (pc : Int) + off = (tgt : Int))
    (kt : x < 0 → V M d tgt L st h mc ms Q) (kf : ¬ (x < 0) → V M d (pc + 3) L st h mc ms Q) : V M d pc L (.inl x :: st) h mc ms Q := by
  intro p l e R s m args below meth c G MC MS Z H locs cells slots ls cx hok hls hst hc hs hz
  obtain ⟨hx, hb, hml, hown, hts, hnm, hfr, hlo, hMC, hMS, hZ⟩ := id cx
  have hx1 : jR x := jst_hd hst
  exact lv_if_lt hx hb hd ht (fun q => kt ((jR_lt hx1 jR_0).mp q) p l e R s m args below meth c G MC MS Z H locs cells slots ls cx hok hls (jst_tl hst) hc hs hz) (fun q => kf (fun z => q ((jR_lt hx1 jR_0).mpr z)) p l e R s m args below meth c G MC MS Z H locs cells slots ls cx hok hls (jst_tl hst) hc hs hz)
theorem V_icmp_ge {x y : Int} {off : Int} {tgt : Nat} (hd : decode (jmC M) pc = .ok (.if_icmp .ge off, 3)) (ht : (pc : Int) + off = (tgt : Int))
    (kt : y ≤ x → V M d tgt L st h mc ms Q) (kf : ¬ (y ≤ x) → V M d (pc + 3) L st h mc ms Q) : V M d pc L (.inl y :: .inl x :: st) h mc ms Q := by
  intro p l e R s m args below meth c G MC MS Z H locs cells slots ls cx hok hls hst hc hs hz
  obtain ⟨hx, hb, hml, hown, hts, hnm, hfr, hlo, hMC, hMS, hZ⟩ := id cx
  have hy1 : jR y := jst_hd hst
  have hx1 : jR x := jst_hd (jst_tl hst)
  exact lv_icmp_ge hx hb hd ht (fun q => kt ((jR_le hy1 hx1).mp q) p l e R s m args below meth c G MC MS Z H locs cells slots ls cx hok hls (jst_tl (jst_tl hst)) hc hs hz) (fun q => kf (fun z => q ((jR_le hy1 hx1).mpr z)) p l e R s m args below meth c G MC MS Z H locs cells slots ls cx hok hls (jst_tl (jst_tl hst)) hc hs hz)
theorem V_if_ge {x : Int} {off : Int} {tgt : Nat} (hd : decode (jmC M) pc = .ok (.ifCond .ge off, 3)) (ht : (pc : Int) + off = (tgt : Int))
    (kt : 0 ≤ x → V M d tgt L st h mc ms Q) (kf : ¬ (0 ≤ x) → V M d (pc + 3) L st h mc ms Q) : V M d pc L (.inl x :: st) h mc ms Q := by
  intro p l e R s m args below meth c G MC MS Z H locs cells slots ls cx hok hls hst hc hs hz
  obtain ⟨hx, hb, hml, hown, hts, hnm, hfr, hlo, hMC, hMS, hZ⟩ := id cx
  have hx1 : jR x := jst_hd hst
  exact lv_if_ge hx hb hd ht (fun q => kt ((jR_le jR_0 hx1).mp q) p l e R s m args below meth c G MC MS Z H locs cells slots ls cx hok hls (jst_tl hst) hc hs hz) (fun q => kf (fun z => q ((jR_le jR_0 hx1).mpr z)) p l e R s m args below meth c G MC MS Z H locs cells slots ls cx hok hls (jst_tl hst) hc hs hz)
theorem V_icmp_gt {x y : Int} {off : Int} {tgt : Nat} (hd : decode (jmC M) pc = .ok (.if_icmp .gt off, 3)) (ht : (pc : Int) + off = (tgt : Int))
    (kt : y < x → V M d tgt L st h mc ms Q) (kf : ¬ (y < x) → V M d (pc + 3) L st h mc ms Q) : V M d pc L (.inl y :: .inl x :: st) h mc ms Q := by
  intro p l e R s m args below meth c G MC MS Z H locs cells slots ls cx hok hls hst hc hs hz
  obtain ⟨hx, hb, hml, hown, hts, hnm, hfr, hlo, hMC, hMS, hZ⟩ := id cx
  have hy1 : jR y := jst_hd hst
  have hx1 : jR x := jst_hd (jst_tl hst)
  exact lv_icmp_gt hx hb hd ht (fun q => kt ((jR_lt hy1 hx1).mp q) p l e R s m args below meth c G MC MS Z H locs cells slots ls cx hok hls (jst_tl (jst_tl hst)) hc hs hz) (fun q => kf (fun z => q ((jR_lt hy1 hx1).mpr z)) p l e R s m args below meth c G MC MS Z H locs cells slots ls cx hok hls (jst_tl (jst_tl hst)) hc hs hz)
theorem V_if_gt {x : Int} {off : Int} {tgt : Nat} (hd : decode (jmC M) pc = .ok (.ifCond .gt off, 3)) (ht : (pc : Int) + off = (tgt : Int))
    (kt : 0 < x → V M d tgt L st h mc ms Q) (kf : ¬ (0 < x) → V M d (pc + 3) L st h mc ms Q) : V M d pc L (.inl x :: st) h mc ms Q := by
  intro p l e R s m args below meth c G MC MS Z H locs cells slots ls cx hok hls hst hc hs hz
  obtain ⟨hx, hb, hml, hown, hts, hnm, hfr, hlo, hMC, hMS, hZ⟩ := id cx
  have hx1 : jR x := jst_hd hst
  exact lv_if_gt hx hb hd ht (fun q => kt ((jR_lt jR_0 hx1).mp q) p l e R s m args below meth c G MC MS Z H locs cells slots ls cx hok hls (jst_tl hst) hc hs hz) (fun q => kf (fun z => q ((jR_lt jR_0 hx1).mpr z)) p l e R s m args below meth c G MC MS Z H locs cells slots ls cx hok hls (jst_tl hst) hc hs hz)
theorem V_icmp_le {x y : Int} {off : Int} {tgt : Nat} (hd : decode (jmC M) pc = .ok (.if_icmp .le off, 3)) (ht : (pc : Int) + off = (tgt : Int))
    (kt : x ≤ y → V M d tgt L st h mc ms Q) (kf : ¬ (x ≤ y) → V M d (pc + 3) L st h mc ms Q) : V M d pc L (.inl y :: .inl x :: st) h mc ms Q := by
  intro p l e R s m args below meth c G MC MS Z H locs cells slots ls cx hok hls hst hc hs hz
  obtain ⟨hx, hb, hml, hown, hts, hnm, hfr, hlo, hMC, hMS, hZ⟩ := id cx
  have hy1 : jR y := jst_hd hst
  have hx1 : jR x := jst_hd (jst_tl hst)
  exact lv_icmp_le hx hb hd ht (fun q => kt ((jR_le hx1 hy1).mp q) p l e R s m args below meth c G MC MS Z H locs cells slots ls cx hok hls (jst_tl (jst_tl hst)) hc hs hz) (fun q => kf (fun z => q ((jR_le hx1 hy1).mpr z)) p l e R s m args below meth c G MC MS Z H locs cells slots ls cx hok hls (jst_tl (jst_tl hst)) hc hs hz)
theorem V_if_le {x : Int} {off : Int} {tgt : Nat} (hd : decode (jmC M) pc = .ok (.ifCond .le off, 3)) (ht : (pc : Int) + off = (tgt : Int))
    (kt : x ≤ 0 → V M d tgt L st h mc ms Q) (kf : ¬ (x ≤ 0) → V M d (pc + 3) L st h mc ms Q) : V M d pc L (.inl x :: st) h mc ms Q := by
  intro p l e R s m args below meth c G MC MS Z H locs cells slots ls cx hok hls hst hc hs hz
  obtain ⟨hx, hb, hml, hown, hts, hnm, hfr, hlo, hMC, hMS, hZ⟩ := id cx
  have hx1 : jR x := jst_hd hst
  exact lv_if_le hx hb hd ht (fun q => kt ((jR_le hx1 jR_0).mp q) p l e R s m args below meth c G MC MS Z H locs cells slots ls cx hok hls (jst_tl hst) hc hs hz) (fun q => kf (fun z => q ((jR_le hx1 jR_0).mpr z)) p l e R s m args below meth c G MC MS Z H locs cells slots ls cx hok hls (jst_tl hst) hc hs hz)
theorem V_tabIn {x dflt lo hi : Int} {offs : Array Int} {len : Nat} {off : Int} {tgt : Nat} (hd : decode (jmC M) pc = .ok (.tableswitch dflt lo hi offs, len)) (h1 : lo ≤ x) (h2 : x ≤ hi) (ho : offs[(x - lo).toNat]? = some off) (ht : (pc : Int) + off = (tgt : Int))
    (k : V M d tgt L st h mc ms Q) : V M d pc L (.inl x :: st) h mc ms Q := by
  intro p l e R s m args below meth c G MC MS Z H locs cells slots ls cx hok hls hst hc hs hz
  obtain ⟨hx, hb, hml, hown, hts, hnm, hfr, hlo, hMC, hMS, hZ⟩ := id cx
  have hx1 := jR_toInt (jst_hd hst : jR x)
  exact lv_tableIn hx hb hd (by rw [hx1]; omega) (by rw [hx1]; omega) (by rw [hx1]; exact ho) ht (k p l e R s m args below meth c G MC MS Z H locs cells slots ls cx hok hls (jst_tl hst) hc hs hz)
theorem V_tabOut {x dflt lo hi : Int} {offs : Array Int} {len : Nat} {tgt : Nat} (hd : decode (jmC M) pc = .ok (.tableswitch dflt lo hi offs, len)) (h1 : x < lo ∨ hi < x) (ht : (pc : Int) + dflt = (tgt : Int))
    (k : V M d tgt L st h mc ms Q) : V M d pc L (.inl x :: st) h mc ms Q := by
  intro p l e R s m args below meth c G MC MS Z H locs cells slots ls cx hok hls hst hc hs hz
  obtain ⟨hx, hb, hml, hown, hts, hnm, hfr, hlo, hMC, hMS, hZ⟩ := id cx
  have hx1 := jR_toInt (jst_hd hst : jR x)
  exact lv_tableOut hx hb hd (by rw [hx1]; exact h1) ht (k p l e R s m args below meth c G MC MS Z H locs cells slots ls cx hok hls (jst_tl hst) hc hs hz)
theorem V_look {x dflt : Int} {ps : Array (Int × Int)} {len : Nat} {off : Int} {tgt : Nat} (hd : decode (jmC M) pc = .ok (.lookupswitch dflt ps, len)) (hp : (ps.toList.zip (ps.toList.drop 1)).all (fun (a, next) => a.1 < next.1) = true) (ho : Op.lookupswitch.offset ps.toList dflt x = off) (ht : (pc : Int) + off = (tgt : Int))
    (k : V M d tgt L st h mc ms Q) : V M d pc L (.inl x :: st) h mc ms Q := by
  intro p l e R s m args below meth c G MC MS Z H locs cells slots ls cx hok hls hst hc hs hz
  obtain ⟨hx, hb, hml, hown, hts, hnm, hfr, hlo, hMC, hMS, hZ⟩ := id cx
  have hx1 := jR_toInt (jst_hd hst : jR x)
  exact lv_lookup hx hb hd hp (by rw [hx1]; exact ho) ht (k p l e R s m args below meth c G MC MS Z H locs cells slots ls cx hok hls (jst_tl hst) hc hs hz)
end JR
