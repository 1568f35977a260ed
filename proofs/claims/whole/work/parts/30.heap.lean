/-! ===== heaps as functions: reading behind writing ===== -/
section KA
variable {h : jH}
theorem jI_sI {a k b j : Nat} {v : Int} : jI (jsI h a k v) b j = if b = a ∧ j = k then v else jI h b j := rfl
theorem jX_sX {a k b j : Nat} {v : Int} : jX (jsX h a k v) b j = if b = a ∧ j = k then v else jX h b j := rfl
theorem jP_sP {a k b j v : Nat} : jP (jsP h a k v) b j = if b = a ∧ j = k then v else jP h b j := rfl
theorem jY_sY {a k b j v : Nat} : jY (jsY h a k v) b j = if b = a ∧ j = k then v else jY h b j := rfl
theorem jX_cpy {a0 sp a1 dp n b j : Nat} : jX (jcpy h a0 sp a1 dp n) b j = if b = a1 ∧ dp ≤ j ∧ j < dp + n then jX h a0 (sp + (j - dp)) else jX h b j := rfl
theorem jI_sX {a k : Nat} {v : Int} : jI (jsX h a k v) = jI h := rfl
theorem jI_sP {a k v : Nat} : jI (jsP h a k v) = jI h := rfl
theorem jI_sY {a k v : Nat} : jI (jsY h a k v) = jI h := rfl
theorem jI_cpy {a0 sp a1 dp n : Nat} : jI (jcpy h a0 sp a1 dp n) = jI h := rfl
theorem jP_sI {a k : Nat} {v : Int} : jP (jsI h a k v) = jP h := rfl
theorem jP_sX {a k : Nat} {v : Int} : jP (jsX h a k v) = jP h := rfl
theorem jP_sY {a k v : Nat} : jP (jsY h a k v) = jP h := rfl
theorem jP_cpy {a0 sp a1 dp n : Nat} : jP (jcpy h a0 sp a1 dp n) = jP h := rfl
theorem jX_sI {a k : Nat} {v : Int} : jX (jsI h a k v) = jX h := rfl
theorem jX_sP {a k v : Nat} : jX (jsP h a k v) = jX h := rfl
theorem jX_sY {a k v : Nat} : jX (jsY h a k v) = jX h := rfl
theorem jY_sI {a k : Nat} {v : Int} : jY (jsI h a k v) = jY h := rfl
theorem jY_sX {a k : Nat} {v : Int} : jY (jsX h a k v) = jY h := rfl
theorem jY_sP {a k v : Nat} : jY (jsP h a k v) = jY h := rfl
theorem jY_cpy {a0 sp a1 dp n : Nat} : jY (jcpy h a0 sp a1 dp n) = jY h := rfl
theorem jS_sI {a k : Nat} {v : Int} : jS (jsI h a k v) = jS h := rfl
theorem jS_sX {a k : Nat} {v : Int} : jS (jsX h a k v) = jS h := rfl
theorem jS_sP {a k v : Nat} : jS (jsP h a k v) = jS h := rfl
theorem jS_sY {a k v : Nat} : jS (jsY h a k v) = jS h := rfl
theorem jS_cpy {a0 sp a1 dp n : Nat} : jS (jcpy h a0 sp a1 dp n) = jS h := rfl
theorem jH_ext {g : jH} (h1 : ∀ a k, jI h a k = jI g a k) (h2 : ∀ a k, jP h a k = jP g a k) (h3 : ∀ a k, jX h a k = jX g a k) (h4 : ∀ a k, jY h a k = jY g a k) (h5 : jS h = jS g) (h6 : jN h = jN g) : h = g := by
  obtain ⟨a1, a2, a3, a4, a5, a6⟩ := h
  obtain ⟨b1, b2, b3, b4, b5, b6⟩ := g
  obtain rfl : a1 = b1 := funext fun a => funext fun k => h1 a k
  obtain rfl : a2 = b2 := funext fun a => funext fun k => h2 a k
  obtain rfl : a3 = b3 := funext fun a => funext fun k => h3 a k
  obtain rfl : a4 = b4 := funext fun a => funext fun k => h4 a k
  obtain rfl : a5 = b5 := h5
  obtain rfl : a6 = b6 := h6
  rfl
/-- what a loop that writes a stretch of an array leaves -/
def jfil (h : jH) (a lo hi : Nat) (f : Nat → Int) : jH := (h.1, h.2.1, fun b k => if b = a ∧ lo ≤ k ∧ k < hi then f k else jX h b k, h.2.2.2)
theorem jX_fil {a lo hi b j : Nat} {f : Nat → Int} : jX (jfil h a lo hi f) b j = if b = a ∧ lo ≤ j ∧ j < hi then f j else jX h b j := rfl
theorem jI_fil {a lo hi : Nat} {f : Nat → Int} : jI (jfil h a lo hi f) = jI h := rfl
theorem jP_fil {a lo hi : Nat} {f : Nat → Int} : jP (jfil h a lo hi f) = jP h := rfl
theorem jY_fil {a lo hi : Nat} {f : Nat → Int} : jY (jfil h a lo hi f) = jY h := rfl
theorem jS_fil {a lo hi : Nat} {f : Nat → Int} : jS (jfil h a lo hi f) = jS h := rfl
theorem jfil_0 {a lo : Nat} {f : Nat → Int} : jfil h a lo lo f = h :=
  jH_ext (fun _ _ => rfl) (fun _ _ => rfl) (fun b k => by rw [jX_fil, if_neg (by omega)]) (fun _ _ => rfl) rfl rfl
theorem jfil_s {a lo i : Nat} {f : Nat → Int} {v : Int} (hv : v = f i) (hi : lo ≤ i) : jsX (jfil h a lo i f) a i v = jfil h a lo (i + 1) f :=
  jH_ext (fun _ _ => rfl) (fun _ _ => rfl) (fun b k => by
    rw [jX_sX, jX_fil, jX_fil]
    by_cases hb : b = a
    · subst hb
      by_cases hk : k = i
      · subst hk
        rw [if_pos ⟨rfl, rfl⟩, if_pos ⟨rfl, hi, by omega⟩, hv]
      · rw [if_neg (by omega)]
        by_cases q : lo ≤ k ∧ k < i
        · rw [if_pos ⟨rfl, q⟩, if_pos ⟨rfl, q.1, by omega⟩]
        · rw [if_neg (fun z => q z.2), if_neg (fun z => q ⟨z.2.1, by omega⟩)]
    · rw [if_neg (fun z => hb z.1), if_neg (fun z => hb z.1), if_neg (fun z => hb z.1)]) (fun _ _ => rfl) rfl rfl
theorem jsI_sI {a k : Nat} {v u : Int} : jsI (jsI h a k v) a k u = jsI h a k u :=
  jH_ext (fun b j => by rw [jI_sI, jI_sI, jI_sI]; split <;> rfl) (fun _ _ => rfl) (fun _ _ => rfl) (fun _ _ => rfl) rfl rfl
theorem jsI_self {a k : Nat} {v : Int} (hv : jI h a k = v) : jsI h a k v = h := by
  refine jH_ext (fun b j => ?_) (fun _ _ => rfl) (fun _ _ => rfl) (fun _ _ => rfl) rfl rfl
  rw [jI_sI]
  by_cases q : b = a ∧ j = k
  · rw [if_pos q, q.1, q.2, hv]
  · rw [if_neg q]
theorem jsI_cm {a k b j : Nat} {v u : Int} (hk : ¬ (a = b ∧ k = j)) : jsI (jsI h a k v) b j u = jsI (jsI h b j u) a k v :=
  jH_ext (fun c i => by
    rw [jI_sI, jI_sI, jI_sI, jI_sI]
    by_cases q : c = b ∧ i = j
    · rw [if_pos q, if_pos q, if_neg (fun z => hk ⟨by rw [← z.1, q.1], by rw [← z.2, q.2]⟩)]
    · rw [if_neg q, if_neg q]) (fun _ _ => rfl) (fun _ _ => rfl) (fun _ _ => rfl) rfl rfl
theorem jsX_sI {a k b j : Nat} {v u : Int} : jsX (jsI h a k v) b j u = jsI (jsX h b j u) a k v := rfl
theorem V_mono {M : jM} {d pc mc ms : Nat} {L : List (Option jA)} {st : List jA} {Q Q' : Option jA → jH → Prop} (hV : V M d pc L st h mc ms Q) (hq : ∀ v g, Q v g → Q' v g) : V M d pc L st h mc ms Q' := by
  intro p l e R s m args below meth c G MC MS Z H locs cells slots ls cx
  obtain ⟨c1, c2, c3, c4, c5, c6, c7, c8, c9, c10, hZ⟩ := cx
  exact hV p l e R s m args below meth c G MC MS Z H locs cells slots ls ⟨c1, c2, c3, c4, c5, c6, c7, c8, c9, c10, fun v h' H' locs' pc' ls' q => hZ v h' H' locs' pc' ls' (hq v h' q)⟩
theorem j_toNat (n : Nat) : ((n : Int)).toNat = n := Int.toNat_natCast n
end KA
