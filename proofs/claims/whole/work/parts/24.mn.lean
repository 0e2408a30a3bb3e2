/-! the model: a note taken, an entry that becomes another -/
theorem MN_app {notes : Nat → List zNote} {σ : zV} {c : Nat} {n : zNote} (hN : MN notes σ) (hz : ∀ c', c' < 4 → (notes c').length ≤ 4) (hc : c < 4) (hl : (notes c).length < 4) {x : Int32} :
    MN (va_up notes c (notes c ++ [n])) (zput (zput (zput (zput (zput (zput σ 37 (c * 20 + (notes c).length * 5) (nI n.1)) 37 (c * 20 + (notes c).length * 5 + 1) (nI n.2.1)) 37 (c * 20 + (notes c).length * 5 + 2) (nI n.2.2.1)) 37 (c * 20 + (notes c).length * 5 + 3) n.2.2.2) 37 (c * 20 + (notes c).length * 5 + 4) x) 36 c (nI ((notes c).length + 1))) := by
  obtain ⟨h1, h2⟩ := hN c hc
  refine MN_up hN hz ⟨?_, fun k hk => ?_⟩ ?_ ?_
  · rw [zput_ii, List.length_append]; rfl
  · rw [List.length_append] at hk
    simp only [List.length_singleton] at hk
    by_cases hk2 : k < (notes c).length
    · rw [zg_apl hk2]
      refine MR_of (h2 k hk2) (fun j hj => ?_)
      simp (disch := omega) only [zput_ne, zput_ii, zput_in']
    · have e : k = (notes c).length := by omega
      subst e
      rw [zg_last]
      refine ⟨?_, ?_, ?_, ?_⟩ <;> simp (disch := omega) only [zput_ne, zput_ii, zput_in']
  · intro i hi
    simp (disch := omega) only [zput_ne, zput_ii, zput_in']
  · intro c' hc'
    simp (disch := omega) only [zput_ne, zput_ii, zput_in']
theorem zer0 {α : Type} {l : List α} : l.eraseIdx 0 = l.tail := by cases l <;> rfl
set_option maxRecDepth 100000 in
theorem M_note {d : Nat} {Q : zQ} {σ : zV} {notes : Nat → List zNote} {c : Nat} {n : zNote} (hN : MN notes σ) (hI : zIN notes) (hc : c < 4) (ht : σ 28 1 = n.2.2.2)
    (hQ : ∀ σ', zoff [36, 37] σ σ' → MN (va_up notes c (zadd (notes c) n)) σ' → Q none σ') : zCall (zUn true) (d + 2) yX6_takeNote [.ref 28, .int (nI c), .int (nI n.1), .int (nI n.2.1), .int (nI n.2.2.1)] σ Q := by
  obtain ⟨h1, h2⟩ := hN c hc
  obtain ⟨h3, h4, h5⟩ := hI c hc
  have hz : ∀ c', c' < 4 → (notes c').length ≤ 4 := fun c' hc' => (hI c' hc').1
  rw [nX6_takeNote, bX6_takeNote_0]
  simp (maxSteps := 2000000) (disch := omega) only [nI_add, pk_mul, nI_clamp, nI_eqE, vp_inE, zc5, zc20, zput_ne, zput_ii, zput_in', h1, ht]
  refine ⟨hc, fun q => ?_, fun q => ?_⟩
  · have hA := MN_app (n := n) (x := nI 0) hN hz hc (by omega)
    refine ⟨hc, by omega, by omega, by omega, by omega, by omega, hc, hc, hQ _ ?_ ?_⟩
    · exact zoff_tr (zoff_tr (zoff_tr (zoff_tr (zoff_tr (zoff_put (by simp)) (zoff_put (by simp))) (zoff_put (by simp))) (zoff_put (by simp))) (zoff_put (by simp))) (zoff_put (by simp))
    · rw [zadd, if_neg q]
      exact hA
  · refine M_drop hN hz hc (by omega) (fun σ1 o1 m1 => ?_)
    rw [zer0] at m1
    simp only [z_toN, List.nil_append]
    have hlt : (notes c).tail.length = 3 := by rw [List.length_tail, q]
    have hz2 : ∀ c', c' < 4 → (va_up notes c (notes c).tail c').length ≤ 4 := by
      intro c' hc'
      by_cases e : c' = c
      · subst e; rw [va_up_self]; omega
      · rw [va_up_ne _ _ e]; exact hz c' hc'
    have h1' : σ1 36 c = nI 3 := by
      have := (m1 c hc).1
      rw [va_up_self, hlt] at this
      exact this
    have ht' : σ1 28 1 = n.2.2.2 := by rw [o1 28 (by simp)]; exact ht
    have hA := MN_app (n := n) (x := nI 0) m1 hz2 hc (by rw [va_up_self]; omega)
    rw [va_up_self, hlt] at hA
    rw [bX6_takeNote_16]
    simp (disch := omega) only [nI_add, pk_mul, nI_clamp, nI_eqE, vp_inE, zc5, zc20, zput_ne, zput_ii, zput_in', h1', ht']
    refine ⟨hc, by omega, by omega, by omega, by omega, by omega, hc, hc, hQ _ ?_ ?_⟩
    · exact zoff_tr o1 (zoff_tr (zoff_tr (zoff_tr (zoff_tr (zoff_tr (zoff_put (by simp)) (zoff_put (by simp))) (zoff_put (by simp))) (zoff_put (by simp))) (zoff_put (by simp))) (zoff_put (by simp)))
    · have e : va_up (va_up notes c (notes c).tail) c ((notes c).tail ++ [n]) = va_up notes c (zadd (notes c) n) := by
        rw [zadd, if_pos q]
        funext c'
        simp only [va_up]
        split <;> rfl
      rw [e] at hA
      exact hA
theorem MH_up {hist : Nat → List (Nat × Int32)} {σ σ' : zV} {p : Nat} {l : List (Nat × Int32)} (h : MH hist σ) (hz : ∀ q, q < 48 → (hist q).length ≤ 20) (h1 : MHr l p σ') (h2 : ∀ i, (i < p * 20 ∨ p * 20 + 20 ≤ i) → σ' 32 i = σ 32 i ∧ σ' 33 i = σ 33 i) (h3 : ∀ q, q ≠ p → σ' 31 q = σ 31 q ∧ σ' 29 q = σ 29 q) : MH (va_up hist p l) σ' := by
  intro q hq
  by_cases e : q = p
  · subst e
    rw [va_up_self]
    exact h1
  · rw [va_up_ne _ _ e]
    obtain ⟨g1, g2, g4⟩ := h q hq
    have g3 := hz q hq
    refine ⟨(h3 q e).1.trans g1, fun k hk => ?_, (h3 q e).2.trans g4⟩
    obtain ⟨y1, y2⟩ := h2 (q * 20 + k) (by omega)
    rw [y1, y2]
    exact g2 k hk
theorem M_bec_loop {d : Nat} {Q : zQ} {σ : zV} {p e : Nat} {v3 : Int32} (hp : p < 48)
    (hQ : ∀ σ', zoff [31, 32, 33] σ σ' → (∀ i, σ' 31 i = if i = p then nI 20 else σ 31 i) → (∀ i, σ' 32 i = if p * 20 ≤ i ∧ i < p * 20 + 19 then σ 32 (i + 1) else if i = p * 20 + 19 then σ 28 1 else σ 32 i) → (∀ i, σ' 33 i = if p * 20 ≤ i ∧ i < p * 20 + 19 then σ 33 (i + 1) else if i = p * 20 + 19 then nI e else σ 33 i) → Q none σ') :
    ∀ n k σ', n + k = 20 → 1 ≤ k → zoff [32, 33] σ σ' → (∀ i, σ' 32 i = if p * 20 ≤ i ∧ i + 1 < p * 20 + k then σ 32 (i + 1) else σ 32 i) → (∀ i, σ' 33 i = if p * 20 ≤ i ∧ i + 1 < p * 20 + k then σ 33 (i + 1) else σ 33 i) → eX6_become d Q 23 [.ref 28, .int (nI p), .int (nI e), .int v3, .int (nI k)] [] σ' := by
  intro n
  induction n with
  | zero =>
    intro k σ' hk h1 o h32 h33
    have hk : k = 20 := by omega
    subst hk
    have ht : σ' 28 1 = σ 28 1 := by rw [o 28 (by simp)]
    rw [bX6_become_23]
    simp (disch := omega) only [nI_add, pk_mul, pk_sub, nI_clamp, nI_ltE, nI_leE, nI_eqE, nI_m, nI_m', nI_lt0, vp_inE, Nat.not_lt_zero, zc3, zc4, zc5, zc16, zc20, zc40, true_implies, false_implies, not_true_eq_false, not_false_eq_true, true_and, and_true, eq_self, implies_true, z_toL, z_toN, List.cons_append, List.nil_append, ht]
    refine ⟨fun _ => ⟨by omega, by omega, hp, hQ _ ?_ ?_ ?_ ?_⟩, fun q => absurd (by omega) q⟩
    · exact zoff_tr (zoff_wk o (by simp)) (zoff_tr (zoff_tr (zoff_put (by simp)) (zoff_put (by simp))) (zoff_put (by simp)))
    · intro i
      rw [zput_in]
      simp (disch := omega) only [zput_ne]
      rw [o 31 (by simp)]
    · intro i
      simp (disch := omega) only [zput_ne]
      rw [zput_in, h32 i]
      by_cases e1 : i = p * 20 + 19
      · rw [if_pos e1, if_neg (by omega), if_pos e1]
      · rw [if_neg e1]
        by_cases e2 : p * 20 ≤ i ∧ i < p * 20 + 19
        · rw [if_pos e2, if_pos (by omega)]
        · rw [if_neg e2, if_neg e1, if_neg (by omega)]
    · intro i
      simp (disch := omega) only [zput_ne]
      rw [zput_in]
      simp (disch := omega) only [zput_ne]
      rw [h33 i]
      by_cases e1 : i = p * 20 + 19
      · rw [if_pos e1, if_neg (by omega), if_pos e1]
      · rw [if_neg e1]
        by_cases e2 : p * 20 ≤ i ∧ i < p * 20 + 19
        · rw [if_pos e2, if_pos (by omega)]
        · rw [if_neg e2, if_neg e1, if_neg (by omega)]
  | succ n ih =>
    intro k σ' hk h1 o h32 h33
    rw [bX6_become_23]
    simp (disch := omega) only [nI_add, pk_mul, pk_sub, nI_clamp, nI_ltE, nI_leE, nI_eqE, nI_m, nI_m', nI_lt0, vp_inE, Nat.not_lt_zero, zc3, zc4, zc5, zc16, zc20, zc40, true_implies, false_implies, not_true_eq_false, not_false_eq_true, true_and, and_true, eq_self, implies_true, z_toL, z_toN, List.cons_append, List.nil_append, zput_ne]
    refine ⟨fun q => absurd q (by omega), fun _ => ⟨by omega, by omega, by omega, by omega, ?_⟩⟩
    refine ih (k + 1) _ (by omega) (by omega) (zoff_tr o (zoff_tr (zoff_put (by simp)) (zoff_put (by simp)))) (fun i => ?_) (fun i => ?_)
    · rw [zput_ne (by decide), zput_in]
      by_cases e1 : i = p * 20 + k - 1
      · rw [if_pos e1, if_pos (by omega), h32, if_neg (by omega)]
        congr 1; omega
      · rw [if_neg e1, h32 i]
        by_cases e2 : p * 20 ≤ i ∧ i + 1 < p * 20 + k
        · rw [if_pos e2, if_pos (by omega)]
        · rw [if_neg e2, if_neg (by omega)]
    · rw [zput_in]
      simp (disch := omega) only [zput_ne]
      by_cases e1 : i = p * 20 + k - 1
      · rw [if_pos e1, if_pos (by omega), h33, if_neg (by omega)]
        congr 1; omega
      · rw [if_neg e1, h33 i]
        by_cases e2 : p * 20 ≤ i ∧ i + 1 < p * 20 + k
        · rw [if_pos e2, if_pos (by omega)]
        · rw [if_neg e2, if_neg (by omega)]
theorem zadh_at {l : List (Nat × Int32)} {x : Nat × Int32} (hl : l.length ≤ 20) : (zadh l x).length = (if l.length = 20 then 20 else l.length + 1) ∧ ∀ k, k < (zadh l x).length → zg (zadh l x) k zh0 = if k + 1 = (zadh l x).length then x else if l.length = 20 then zg l (k + 1) zh0 else zg l k zh0 := by
  unfold zadh
  by_cases e : l.length = 20
  · rw [if_pos e, if_pos e, List.length_append, List.length_tail, e]
    refine ⟨rfl, fun k hk => ?_⟩
    simp only [List.length_singleton] at hk ⊢
    have hlt : l.tail.length = 19 := by rw [List.length_tail, e]
    by_cases e2 : k + 1 = 20
    · rw [if_pos e2]
      have := zg_last (l := l.tail) (x := zh0) (y := x)
      rw [hlt] at this
      rw [show k = 19 by omega]
      exact this
    · rw [if_neg e2, if_pos trivial, zg_apl (by omega), zg_tail (by omega)]
  · rw [if_neg e, if_neg e, List.length_append]
    refine ⟨rfl, fun k hk => ?_⟩
    simp only [List.length_singleton] at hk ⊢
    by_cases e2 : k + 1 = l.length + 1
    · rw [if_pos e2, show k = l.length by omega]
      exact zg_last
    · rw [if_neg e2, if_neg e, zg_apl (by omega)]
theorem M_become {d : Nat} {Q : zQ} {σ : zV} {hist : Nat → List (Nat × Int32)} {p e : Nat} {t : Int32} (hH : MH hist σ) (hI : zIH hist) (hp : p < 48) (ht : σ 28 1 = t)
    (hQ : ∀ σ', zoff [29, 31, 32, 33] σ σ' → MH (va_up hist p (zadh (hist p) (e, t))) σ' → Q none σ') : zCall (zUn true) (d + 1) yX6_become [.ref 28, .int (nI p), .int (nI e)] σ Q := by
  obtain ⟨h1, h2, h6⟩ := hH _ hp
  obtain ⟨h3, h4, h5⟩ := hI _ hp
  have hz : ∀ q, q < 48 → (hist q).length ≤ 20 := fun q hq => (hI q hq).2.1
  obtain ⟨a1, a2⟩ := zadh_at (x := (e, t)) h4
  rw [nX6_become, bX6_become_0]
  simp (disch := omega) only [nI_add, pk_mul, pk_sub, nI_clamp, nI_ltE, nI_leE, nI_eqE, nI_m, nI_m', nI_lt0, vp_inE, Nat.not_lt_zero, zc3, zc4, zc5, zc16, zc20, zc40, true_implies, false_implies, not_true_eq_false, not_false_eq_true, true_and, and_true, eq_self, implies_true, z_toL, z_toN, List.cons_append, List.nil_append, zput_ne, zput_ii, zput_in', h1, ht]
  refine ⟨hp, hp, fun q => ⟨by omega, by omega, hp, hQ _ ?_ ?_⟩, fun q => ?_⟩
  · exact zoff_tr (zoff_tr (zoff_tr (zoff_put (by simp)) (zoff_put (by simp))) (zoff_put (by simp))) (zoff_put (by simp))
  · rw [if_neg q] at a1
    refine MH_up hH hz ⟨?_, fun k hk => ?_, ?_⟩ (fun i hi => ?_) (fun j hj => ?_)
    · rw [zput_ii, a1]
    · rw [a2 k hk, if_neg q]
      rw [a1] at hk
      by_cases e2 : k + 1 = (zadh (hist p) (e, t)).length
      · rw [if_pos e2]
        rw [a1] at e2
        have e3 : k = (hist p).length := by omega
        subst e3
        constructor <;> simp (disch := omega) only [zput_ne, zput_ii, zput_in']
      · rw [if_neg e2]
        rw [a1] at e2
        have g := h2 k (by omega)
        constructor <;> simp (disch := omega) only [zput_ne, zput_ii, zput_in', g.1, g.2]
    · rw [a2 _ (by omega), if_pos (by omega)]
      simp (disch := omega) only [zput_ne, zput_ii, zput_in']
    · constructor <;> simp (disch := omega) only [zput_ne, zput_ii, zput_in']
    · constructor <;> simp (disch := omega) only [zput_ne, zput_ii, zput_in']
  · rw [if_pos q] at a1
    have o1 : zoff [29] σ (zput σ 29 p (nI e)) := zoff_put (by simp)
    refine M_bec_loop (σ := zput σ 29 p (nI e)) hp (fun σ' o g31 g32 g33 => hQ σ' (zoff_tr (zoff_wk o1 (by simp)) (zoff_wk o (by simp))) ?_) 19 1 _ rfl (Nat.le_refl _) zoff_rf (fun i => by rw [if_neg (by omega)]) (fun i => by rw [if_neg (by omega)])
    rw [o1 31 (by simp)] at g31
    rw [o1 32 (by simp), o1 28 (by simp), ht] at g32
    rw [o1 33 (by simp)] at g33
    have g29 : σ' 29 = zput σ 29 p (nI e) 29 := o 29 (by simp)
    refine MH_up hH hz ⟨?_, fun k hk => ?_, ?_⟩ (fun i hi => ?_) (fun j hj => ?_)
    · rw [g31, if_pos rfl, a1]
    · rw [a2 k hk, if_pos q]
      rw [a1] at hk
      by_cases e2 : k + 1 = (zadh (hist p) (e, t)).length
      · rw [if_pos e2]
        rw [a1] at e2
        have e3 : k = 19 := by omega
        subst e3
        rw [g32, g33, if_neg (by omega), if_pos rfl, if_neg (by omega), if_pos rfl]
        exact ⟨rfl, rfl⟩
      · rw [if_neg e2]
        rw [a1] at e2
        rw [g32, g33, if_pos (by omega), if_pos (by omega)]
        exact h2 (k + 1) (by omega)
    · rw [a2 _ (by omega), if_pos (by omega), g29, zput_ii]
    · rw [g32, g33, if_neg (by omega), if_neg (by omega), if_neg (by omega), if_neg (by omega)]
      exact ⟨rfl, rfl⟩
    · rw [g31, if_neg hj, g29, zput_in' hj]
      exact ⟨rfl, rfl⟩
