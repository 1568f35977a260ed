/-! ===== Math.max, over V ===== -/
section JN
variable {M : jM} {d pc mc ms : Nat} {L : List (Option jA)} {st : List jA} {h : jH} {Q : Option jA → jH → Prop}
theorem V_mmax {ix : Nat} {x y : Int} (hd : decode (jmC M) pc = .ok (.invokestatic ix, 3)) (hl : Cond.methodLink (jmO M) ix (jmY MJ9_max_7cf53) ∈ jTs) (hr : st.length ≤ 8)
    (k : V M d (pc + 3) L (.inl (max x y) :: st) h mc ms Q) : V M d pc L (.inl y :: .inl x :: st) h mc ms Q := by
  intro p l e R s m args below meth c G MC MS Z H locs cells slots ls cx hok hls hst hc hs hz
  obtain ⟨hx, hb, hml, hown, hts, hnm, hfr, hlo, hMC, hMS, hZ⟩ := id cx
  have hy1 : jR y := jst_hd hst
  have hx1 : jR x := jst_hd (jst_tl hst)
  have hm1 : jR (max x y) := ⟨by have := hx1.1; omega, by have := hx1.2; have := hy1.2; omega⟩
  have k1 := k p l e R s m args below meth c G MC MS Z H locs cells slots ls cx hok hls (jst_cons (v := .inl (max x y)) hm1 (jst_tl (jst_tl hst))) hc hs hz
  rw [List.map_cons, show jV G (.inl (max x y)) = .int (if Int32.ofInt x < Int32.ofInt y then Int32.ofInt y else Int32.ofInt x) by
    show Value.int (Int32.ofInt (max x y)) = _
    by_cases q : x < y
    · rw [if_pos ((jR_lt hx1 hy1).mpr q), show max x y = y by omega]
    · rw [if_neg (fun z => q ((jR_lt hx1 hy1).mp z)), show max x y = x by omega]] at k1
  exact va_mmax hx hb (hml.trans hls.1.symm) hown (hts _ hl) (hts _ sJ9_max_7cf53) (hts _ tJ9_max_7cf53.2) (hts _ tJ9_max_7cf53.1) (by omega) (by rw [jcat]; omega) (by omega) (by omega) hd k1
end JN
