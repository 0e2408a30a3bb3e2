/-! the model's helpers: notes, history -/
def MNr (l : List zNote) (c : Nat) (σ : zV) : Prop := σ 36 c = nI l.length ∧ ∀ k, k < l.length → MR (zg l k zn0) (c * 20 + k * 5) σ
theorem MR_of {n : zNote} {i i' : Nat} {σ σ' : zV} (h : MR n i σ) (e : ∀ j, j < 4 → σ' 37 (i' + j) = σ 37 (i + j)) : MR n i' σ' := by
  obtain ⟨h1, h2, h3, h4⟩ := h
  exact ⟨(e 0 (by omega)).trans h1, (e 1 (by omega)).trans h2, (e 2 (by omega)).trans h3, (e 3 (by omega)).trans h4⟩
theorem MN_up {notes : Nat → List zNote} {σ σ' : zV} {c : Nat} {l : List zNote} (h : MN notes σ) (hz : ∀ c', c' < 4 → (notes c').length ≤ 4) (h1 : MNr l c σ') (h2 : ∀ i, (i < c * 20 ∨ c * 20 + 20 ≤ i) → σ' 37 i = σ 37 i) (h3 : ∀ c', c' ≠ c → σ' 36 c' = σ 36 c') : MN (va_up notes c l) σ' := by
  intro c' hc'
  by_cases e : c' = c
  · subst e
    rw [va_up_self]
    exact h1
  · rw [va_up_ne _ _ e]
    obtain ⟨g1, g2⟩ := h c' hc'
    have g3 := hz c' hc'
    exact ⟨(h3 c' e).trans g1, fun k hk => MR_of (g2 k hk) (fun j hj => h2 _ (by omega))⟩
theorem zg_er {α : Type} {l : List α} {k j : Nat} {x : α} (hj : j + 1 < l.length) : zg (l.eraseIdx k) j x = if j < k then zg l j x else zg l (j + 1) x := by
  refine zg_of ?_
  rw [List.getElem?_eraseIdx]
  split
  · exact zg_some (by omega)
  · exact zg_some hj
theorem M_find_loop {d : Nat} {Q : zQ} {σ : zV} {notes : Nat → List zNote} {c s p : Nat} (hN : MN notes σ) (hI : zIN notes) (hc : c < 4) (hs : s < 3) (hp : p < 16) (hQ : Q (some (.int (zcode (zfn (notes c) s p)))) σ) :
    ∀ n k, n + k = (notes c).length → (∀ j, j < k → zmN (zg (notes c) j zn0) s p = false) → eX6_noteOf d Q 3 [.ref 28, .int (nI c), .int (nI s), .int (nI p), .int (nI k)] [] σ := by
  obtain ⟨h1, h2⟩ := hN c hc
  obtain ⟨h3, h4, h5⟩ := hI c hc
  intro n
  induction n with
  | zero =>
    intro k hk hj
    have e : zfn (notes c) s p = none := zfst_none (fun j hjl => hj j (by omega))
    rw [e] at hQ
    rw [bX6_noteOf_3]
    simp (disch := omega) only [nI_add, pk_mul, pk_sub, nI_clamp, nI_ltE, nI_leE, nI_eqE, nI_m, nI_m', nI_lt0, vp_inE, Nat.not_lt_zero, zc3, zc4, zc5, zc16, zc20, zc40, true_implies, false_implies, not_true_eq_false, not_false_eq_true, true_and, and_true, eq_self, implies_true, z_toL, z_toN, List.cons_append, List.nil_append, h1]
    refine ⟨hc, fun _ => hQ, fun q => absurd (by omega) q⟩
  | succ n ih =>
    intro k hk hj
    obtain ⟨g1, g2, g3, g4⟩ := h2 k (by omega)
    obtain ⟨i1, i2, i3, i4⟩ := h4 _ (zg_mem (x := zn0) (show k < (notes c).length by omega))
    have hnx : zmN (zg (notes c) k zn0) s p = false → eX6_noteOf d Q 3 [.ref 28, .int (nI c), .int (nI s), .int (nI p), .int (nI (k + 1))] [] σ := fun q => ih (k + 1) (by omega) (fun j hjk => by
      rcases Nat.lt_or_ge j k with z | z
      · exact hj j z
      · rw [show j = k by omega]; exact q)
    have hys : zmN (zg (notes c) k zn0) s p = true → Q (some (.int (nI k))) σ := fun q => by
      have e : zfn (notes c) s p = some k := zfst_some hj (by omega) q
      rw [e] at hQ
      exact hQ
    rw [bX6_noteOf_3]
    simp (disch := omega) only [nI_add, pk_mul, pk_sub, nI_clamp, nI_ltE, nI_leE, nI_eqE, nI_m, nI_m', nI_lt0, vp_inE, Nat.not_lt_zero, zc3, zc4, zc5, zc16, zc20, zc40, true_implies, false_implies, not_true_eq_false, not_false_eq_true, true_and, and_true, eq_self, implies_true, z_toL, z_toN, List.cons_append, List.nil_append, h1, g1, g2]
    refine ⟨hc, fun q => absurd q (by omega), fun _ => ⟨by omega, fun q => hnx (zmN_1 q), fun q => ⟨by omega, fun q2 => hnx (zmN_2 q2), fun q2 => hys (zmN_3 q q2)⟩⟩⟩
theorem M_find {d : Nat} {Q : zQ} {σ : zV} {notes : Nat → List zNote} {c s p : Nat} (hN : MN notes σ) (hI : zIN notes) (hc : c < 4) (hs : s < 3) (hp : p < 16) (hQ : Q (some (.int (zcode (zfn (notes c) s p)))) σ) : zCall (zUn true) (d + 1) yX6_noteOf [.ref 28, .int (nI c), .int (nI s), .int (nI p)] σ Q := by
  rw [nX6_noteOf, bX6_noteOf_0]
  exact M_find_loop hN hI hc hs hp hQ (notes c).length 0 rfl (fun j h => absurd h (by omega))
theorem M_drop_loop {d : Nat} {Q : zQ} {σ : zV} {c k len : Nat} (hc : c < 4) (hk : k < len) (hlen : len ≤ 4) (hl : σ 36 c = nI len)
    (hQ : ∀ σ', zoff [36, 37] σ σ' → (∀ i, σ' 36 i = if i = c then nI (len - 1) else σ 36 i) → (∀ i, σ' 37 i = if c * 20 + k * 5 ≤ i ∧ i < c * 20 + (len - 1) * 5 then σ 37 (i + 5) else σ 37 i) → Q none σ') :
    ∀ n i σ', n + i = c * 20 + (len - 1) * 5 → c * 20 + k * 5 ≤ i → zoff [37] σ σ' → (∀ j, σ' 37 j = if c * 20 + k * 5 ≤ j ∧ j < i then σ 37 (j + 5) else σ 37 j) → eX6_dropNote d Q 9 [.ref 28, .int (nI c), .int (nI k), .int (nI i)] [] σ' := by
  intro n
  induction n with
  | zero =>
    intro i σ' hi hki o h37
    have h36 : σ' 36 = σ 36 := o 36 (by simp)
    rw [bX6_dropNote_9]
    simp (disch := omega) only [nI_add, pk_mul, pk_sub, nI_clamp, nI_ltE, nI_leE, nI_eqE, nI_m, nI_m', nI_lt0, vp_inE, Nat.not_lt_zero, zc3, zc4, zc5, zc16, zc20, zc40, true_implies, false_implies, not_true_eq_false, not_false_eq_true, true_and, and_true, eq_self, implies_true, z_toL, z_toN, List.cons_append, List.nil_append, h36, hl]
    refine ⟨hc, fun _ => ⟨hc, hc, hQ _ ?_ ?_ ?_⟩, fun q => absurd (by omega) q⟩
    · exact zoff_tr (zoff_wk o (by simp)) (zoff_put (by simp))
    · intro j
      rw [zput_in, h36]
    · intro j
      rw [zput_ne (by decide), h37 j, show i = c * 20 + (len - 1) * 5 by omega]
  | succ n ih =>
    intro i σ' hi hki o h37
    have h36 : σ' 36 = σ 36 := o 36 (by simp)
    rw [bX6_dropNote_9]
    simp (disch := omega) only [nI_add, pk_mul, pk_sub, nI_clamp, nI_ltE, nI_leE, nI_eqE, nI_m, nI_m', nI_lt0, vp_inE, Nat.not_lt_zero, zc3, zc4, zc5, zc16, zc20, zc40, true_implies, false_implies, not_true_eq_false, not_false_eq_true, true_and, and_true, eq_self, implies_true, z_toL, z_toN, List.cons_append, List.nil_append, h36, hl]
    refine ⟨hc, fun q => absurd q (by omega), fun _ => ⟨by omega, by omega, ?_⟩⟩
    refine ih (i + 1) _ (by omega) (by omega) (zoff_tr o (zoff_put (by simp))) (fun j => ?_)
    rw [zput_in]
    by_cases e : j = i
    · subst e
      rw [if_pos rfl, if_pos (by omega), h37, if_neg (by omega)]
    · rw [if_neg e, h37 j]
      by_cases e2 : c * 20 + k * 5 ≤ j ∧ j < i
      · rw [if_pos e2, if_pos (by omega)]
      · rw [if_neg e2, if_neg (by omega)]
theorem M_drop {d : Nat} {Q : zQ} {σ : zV} {notes : Nat → List zNote} {c k : Nat} (hN : MN notes σ) (hz : ∀ c', c' < 4 → (notes c').length ≤ 4) (hc : c < 4) (hk : k < (notes c).length)
    (hQ : ∀ σ', zoff [36, 37] σ σ' → MN (va_up notes c ((notes c).eraseIdx k)) σ' → Q none σ') : zCall (zUn true) (d + 1) yX6_dropNote [.ref 28, .int (nI c), .int (nI k)] σ Q := by
  obtain ⟨h1, h2⟩ := hN c hc
  have h3 := hz c hc
  rw [nX6_dropNote, bX6_dropNote_0]
  simp (disch := omega) only [nI_add, pk_mul, pk_sub, nI_clamp, nI_ltE, nI_leE, nI_eqE, nI_m, nI_m', nI_lt0, vp_inE, Nat.not_lt_zero, zc3, zc4, zc5, zc16, zc20, zc40]
  refine M_drop_loop (len := (notes c).length) hc hk h3 h1 (fun σ' o g36 g37 => hQ σ' o ?_) (((notes c).length - 1 - k) * 5) (c * 20 + k * 5) σ (by omega) (Nat.le_refl _) zoff_rf (fun j => by rw [if_neg (by omega)])
  have hel : ((notes c).eraseIdx k).length = (notes c).length - 1 := List.length_eraseIdx_of_lt hk
  refine MN_up hN hz ⟨?_, fun j hj => ?_⟩ (fun i hi => ?_) (fun c' hc' => ?_)
  · rw [g36, if_pos rfl, hel]
  · rw [hel] at hj
    rw [zg_er (by omega)]
    split
    · exact MR_of (h2 j (by omega)) (fun i hi => by rw [g37, if_neg (by omega)])
    · exact MR_of (h2 (j + 1) (by omega)) (fun i hi => by rw [g37, if_pos (by omega)]; congr 1; omega)
  · rw [g37, if_neg (by omega)]
  · rw [g36, if_neg hc']
def zpm (i : Nat) : Int32 := match i with
  | 0 => -nI 1
  | j + 1 => nI j
theorem zpm_sub (i : Nat) (h : i < 2 ^ 30) : nI i - nI 1 = zpm i := by
  cases i with
  | zero => decide
  | succ j =>
    show _ = nI j
    rw [pk_sub (by omega)]
    rfl
theorem zpm_add (i : Nat) : nI i + -nI 1 = zpm i := by
  cases i with
  | zero => decide
  | succ j => exact pk_m1 j
theorem zer {α : Type} {x : α} {R : List α} : ∀ (A : List α), (A ++ x :: R).eraseIdx A.length = A ++ R := by
  intro A
  induction A with
  | nil => rfl
  | cons a t ih => simp [ih]
theorem M_forget_loop {d : Nat} {Q : zQ} {notes0 : Nat → List zNote} {l : List zNote} {c s : Nat} {p : Int32} (hc : c < 4) (hs : s < 3) (hl : l.length ≤ 4) (hI : ∀ n ∈ l, n.1 < 3 ∧ n.2.1 < 16) {σ : zV} (hz : ∀ c', c' < 4 → (notes0 c').length ≤ 4)
    (hQ : ∀ σ', zoff [36, 37] σ σ' → MN (va_up notes0 c (zkeep s p l)) σ' → Q (some (.int (nI (l.length - (zkeep s p l).length)))) σ') :
    ∀ i σ', i ≤ l.length → zoff [36, 37] σ σ' → MN (va_up notes0 c (l.take i ++ zkeep s p (l.drop i))) σ' → eX6_forget (d + 1) Q 13 [.ref 28, .int (nI c), .int (nI s), .int p, .int (nI (l.length - (l.take i ++ zkeep s p (l.drop i)).length)), .int (zpm i)] [] σ' := by
  intro i
  induction i with
  | zero =>
    intro σ' hi o h
    simp only [List.take_zero, List.drop_zero, List.nil_append] at h ⊢
    rw [bX6_forget_13]
    exact ⟨fun _ => hQ σ' o h, fun q => absurd (by decide) q⟩
  | succ i ih =>
    intro σ' hi o h
    have hil : i < l.length := by omega
    have hd : l.drop i = zg l i zn0 :: l.drop (i + 1) := by
      rw [List.drop_eq_getElem_cons hil]
      congr 1
      exact (zg_of (List.getElem?_eq_getElem hil)).symm
    have ht : l.take (i + 1) = l.take i ++ [zg l i zn0] := by
      rw [List.take_succ, zg_some (x := zn0) hil]
      rfl
    have hlt : (l.take i).length = i := by rw [List.length_take]; omega
    obtain ⟨g1, g2⟩ := h c hc
    rw [va_up_self] at g1 g2
    have hLlen : (l.take (i + 1) ++ zkeep s p (l.drop (i + 1))).length ≤ l.length := by
      have := zkeep_le (s := s) (p := p) (l := l.drop (i + 1))
      rw [List.length_append]
      rw [List.length_take]
      rw [List.length_drop] at this
      omega
    have hLi : i < (l.take (i + 1) ++ zkeep s p (l.drop (i + 1))).length := by rw [List.length_append, List.length_take]; omega
    obtain ⟨f1, f2, f3, f4⟩ := g2 i hLi
    have hx : zg (l.take (i + 1) ++ zkeep s p (l.drop (i + 1))) i zn0 = zg l i zn0 := by
      rw [zg_apl (by rw [List.length_take]; omega), ht]
      have := zg_last (l := l.take i) (x := zn0) (y := zg l i zn0)
      rw [hlt] at this
      exact this
    rw [hx] at f1 f2
    obtain ⟨j1, j2⟩ := hI _ (zg_mem (x := zn0) hil)
    have hout : zmF s p (zg l i zn0) = false → eX6_forget (d + 1) Q 13 [.ref 28, .int (nI c), .int (nI s), .int p, .int (nI (l.length - (l.take (i + 1) ++ zkeep s p (l.drop (i + 1))).length)), .int (nI i + -nI 1)] [] σ' := by
      intro hm
      have e : l.take (i + 1) ++ zkeep s p (l.drop (i + 1)) = l.take i ++ zkeep s p (l.drop i) := by
        rw [hd, ht]
        unfold zkeep
        rw [List.filter_cons, if_pos (by rw [hm]; rfl), List.append_assoc]
        rfl
      rw [e] at h ⊢
      rw [zpm_add]
      exact ih σ' (by omega) o h
    have hin : zmF s p (zg l i zn0) = true → zCall (zUn true) (d + 1) yX6_dropNote [.ref 28, .int (nI c), .int (nI i)] σ' (fun v σ' => eX6_forget (d + 1) Q 68 [.ref 28, .int (nI c), .int (nI s), .int p, .int (nI (l.length - (l.take (i + 1) ++ zkeep s p (l.drop (i + 1))).length)), .int (nI i)] (v.toList ++ []) σ') := by
      intro hm
      have hz2 : ∀ c', c' < 4 → (va_up notes0 c (l.take (i + 1) ++ zkeep s p (l.drop (i + 1))) c').length ≤ 4 := by
        intro c' hc'
        by_cases e : c' = c
        · subst e; rw [va_up_self]; omega
        · rw [va_up_ne _ _ e]; exact hz c' hc'
      refine M_drop h hz2 hc (by rw [va_up_self]; exact hLi) (fun σ2 o2 m2 => ?_)
      simp only [z_toN, List.nil_append]
      rw [va_up_self] at m2
      have e : (l.take (i + 1) ++ zkeep s p (l.drop (i + 1))).eraseIdx i = l.take i ++ zkeep s p (l.drop i) := by
        rw [ht, List.append_assoc]
        have := zer (x := zg l i zn0) (R := zkeep s p (l.drop (i + 1))) (l.take i)
        rw [hlt] at this
        rw [show [zg l i zn0] ++ zkeep s p (l.drop (i + 1)) = zg l i zn0 :: zkeep s p (l.drop (i + 1)) from rfl, this, hd]
        congr 1
        unfold zkeep
        rw [List.filter_cons, if_neg (by rw [hm]; decide)]
      rw [e] at m2
      have e2 : va_up (va_up notes0 c (l.take (i + 1) ++ zkeep s p (l.drop (i + 1)))) c (l.take i ++ zkeep s p (l.drop i)) = va_up notes0 c (l.take i ++ zkeep s p (l.drop i)) := by
        funext c'
        simp only [va_up]
        split <;> rfl
      rw [e2] at m2
      have hle : (l.take i ++ zkeep s p (l.drop i)).length + 1 = (l.take (i + 1) ++ zkeep s p (l.drop (i + 1))).length := by
        rw [← e, List.length_eraseIdx_of_lt hLi]
        omega
      rw [bX6_forget_68, zpm_add, nI_add]
      rw [show l.length - (l.take (i + 1) ++ zkeep s p (l.drop (i + 1))).length + 1 = l.length - (l.take i ++ zkeep s p (l.drop i)).length by omega]
      exact ih σ2 (by omega) (zoff_tr o o2) m2
    rw [show zpm (i + 1) = nI i from rfl, bX6_forget_13]
    simp (disch := omega) only [nI_add, pk_mul, nI_clamp, nI_ltE, nI_eqE, vp_inE, zc5, zc20, Nat.not_lt_zero, true_implies, false_implies, not_true_eq_false, not_false_eq_true, true_and, and_true, eq_self, implies_true, z_toL, z_toN, List.cons_append, List.nil_append, f1, f2]
    refine ⟨by omega, fun q => hout (by simp [zmF, q]), fun q => ⟨fun q2 => hin (by simp [zmF, q, q2]), fun q2 => ⟨by omega, fun q3 => hout (by simp [zmF, q2, q3]), fun q3 => hin (by simp [zmF, q, q3])⟩⟩⟩
theorem M_forget {d : Nat} {Q : zQ} {σ : zV} {notes : Nat → List zNote} {c s : Nat} {p : Int32} (hN : MN notes σ) (hI : zIN notes) (hc : c < 4) (hs : s < 3)
    (hQ : ∀ σ', zoff [36, 37] σ σ' → MN (va_up notes c (zkeep s p (notes c))) σ' → Q (some (.int (nI ((notes c).length - (zkeep s p (notes c)).length)))) σ') : zCall (zUn true) (d + 2) yX6_forget [.ref 28, .int (nI c), .int (nI s), .int p] σ Q := by
  obtain ⟨h1, h2⟩ := hN c hc
  obtain ⟨h3, h4, h5⟩ := hI c hc
  rw [nX6_forget, bX6_forget_0]
  simp (disch := omega) only [vp_inE, nI_clamp, h1]
  refine ⟨hc, ?_⟩
  rw [zpm_sub _ (by omega)]
  have := M_forget_loop (d := d) (Q := Q) (notes0 := notes) (l := notes c) (p := p) hc hs h3 (fun n hn => ⟨(h4 n hn).1, (h4 n hn).2.1⟩) (σ := σ) (fun c' hc' => (hI c' hc').1) hQ (notes c).length σ (Nat.le_refl _) zoff_rf ?_
  · simp only [List.take_length, List.drop_length, zkeep, List.filter_nil, List.append_nil, Nat.sub_self] at this
    exact this
  · simp only [List.take_length, List.drop_length, zkeep, List.filter_nil, List.append_nil]
    have e : va_up notes c (notes c) = notes := by
      funext c'
      unfold va_up
      split
      · rename_i e; rw [e]
      · rfl
    rw [e]
    exact hN
