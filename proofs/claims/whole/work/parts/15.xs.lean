/-! the class's helpers -/
def zmN (n : zNote) (s p : Nat) : Bool := decide (n.1 = s) && decide (n.2.1 = p)
theorem zmN_1 {n : zNote} {s p : Nat} (h : ¬ n.1 = s) : zmN n s p = false := by simp [zmN, h]
theorem zmN_2 {n : zNote} {s p : Nat} (h : ¬ n.2.1 = p) : zmN n s p = false := by simp [zmN, h]
theorem zmN_3 {n : zNote} {s p : Nat} (h : n.1 = s) (h2 : n.2.1 = p) : zmN n s p = true := by simp [zmN, h, h2]
/-- where a note of a space and page is -/
def zfn (l : List zNote) (s p : Nat) : Option Nat := zfst (fun k => zmN (zg l k zn0) s p) l.length
set_option maxHeartbeats 2000000 in
theorem X_find_loop {b : Bool} {d : Nat} {Q : zQ} {σ : zV} {notes : Nat → List zNote} {c s p : Nat} (hN : XN notes σ) (hI : zIN notes) (hc : c < 4) (hs : s < 3) (hp : p < 16) (hQ : Q (some (.int (zcode (zfn (notes c) s p)))) σ) :
    ∀ n k, n + k = (notes c).length → (∀ j, j < k → zmN (zg (notes c) j zn0) s p = false) → eX1_find b (d + 2) Q 3 [.ref 11, .int (nI c), .int (nI s), .int (nI p), .int (nI k)] [] σ := by
  obtain ⟨h1, h2⟩ := hN c hc
  obtain ⟨h3, h4, h5⟩ := hI c hc
  intro n
  induction n with
  | zero =>
    intro k hk hj
    have e : zfn (notes c) s p = none := zfst_none (fun j hjl => hj j (by omega))
    rw [e] at hQ
    rw [bX1_find_3]
    simp (disch := omega) only [nI_add, pk_mul, pk_sub, nI_clamp, nI_ltE, nI_leE, nI_eqE, nI_m, nI_m', nI_lt0, vp_inE, zc3, zc4, zc5, zc16, zc20, zc40, true_implies, false_implies, not_true_eq_false, not_false_eq_true, true_and, and_true, eq_self, implies_true, z_toL, z_toN, List.cons_append, List.nil_append, h1]
    refine ⟨hc, fun _ => hQ, fun q => absurd (by omega) q⟩
  | succ n ih =>
    intro k hk hj
    obtain ⟨g1, g2, g3, g4⟩ := h2 k (by omega)
    obtain ⟨i1, i2, i3, i4⟩ := h4 _ (zg_mem (x := zn0) (show k < (notes c).length by omega))
    have hnx : zmN (zg (notes c) k zn0) s p = false → eX1_find b (d + 2) Q 3 [.ref 11, .int (nI c), .int (nI s), .int (nI p), .int (nI (k + 1))] [] σ := fun q => ih (k + 1) (by omega) (fun j hjk => by
      rcases Nat.lt_or_ge j k with z | z
      · exact hj j z
      · rw [show j = k by omega]; exact q)
    have hys : zmN (zg (notes c) k zn0) s p = true → Q (some (.int (nI k))) σ := fun q => by
      have e : zfn (notes c) s p = some k := zfst_some hj (by omega) q
      rw [e] at hQ
      exact hQ
    rw [bX1_find_3]
    simp (disch := omega) only [nI_add, pk_mul, pk_sub, nI_clamp, nI_ltE, nI_leE, nI_eqE, nI_m, nI_m', nI_lt0, vp_inE, zc3, zc4, zc5, zc16, zc20, zc40, true_implies, false_implies, not_true_eq_false, not_false_eq_true, true_and, and_true, eq_self, implies_true, z_toL, z_toN, List.cons_append, List.nil_append, h1, g1, g2]
    refine ⟨hc, fun q => absurd q (by omega), fun _ => ⟨by omega, fun q => hnx (zmN_1 q), fun q => ⟨by omega, fun q2 => hnx (zmN_2 q2), fun q2 => hys (zmN_3 q q2)⟩⟩⟩
theorem X_find {b : Bool} {d : Nat} {Q : zQ} {σ : zV} {notes : Nat → List zNote} {c s p : Nat} (hN : XN notes σ) (hI : zIN notes) (hc : c < 4) (hs : s < 3) (hp : p < 16) (hQ : Q (some (.int (zcode (zfn (notes c) s p)))) σ) : zCall (zUn b) (d + 3) yX1_find [.ref 11, .int (nI c), .int (nI s), .int (nI p)] σ Q := by
  rw [nX1_find, bX1_find_0]
  exact X_find_loop hN hI hc hs hp hQ (notes c).length 0 rfl (fun j h => absurd h (by omega))
theorem X_move {b : Bool} {d : Nat} {Q : zQ} {σ : zV} {c i j : Nat} (hc : c < 4) (hi : i < 4) (hj : j < 4) (hQ : ∀ σ2, zoff [13, 14, 15, 16] σ σ2 → (∀ a, a ∈ [13, 14, 15, 16] → ∀ k, σ2 a k = if k = c * 4 + j then σ a (c * 4 + i) else σ a k) → Q none σ2) : zCall (zUn b) (d + 1) yX1_move [.ref 11, .int (nI c), .int (nI i), .int (nI j)] σ Q := by
  rw [sX1_move]
  simp (disch := omega) only [nI_add, pk_mul, pk_sub, nI_clamp, nI_ltE, nI_leE, nI_eqE, nI_m, nI_m', nI_lt0, vp_inE, zc3, zc4, zc5, zc16, zc20, zc40, true_implies, false_implies, not_true_eq_false, not_false_eq_true, true_and, and_true, eq_self, implies_true, z_toL, z_toN, List.cons_append, List.nil_append, zput_ne, zput_in]
  refine ⟨by omega, by omega, by omega, by omega, by omega, by omega, by omega, by omega, hQ _ ?_ ?_⟩
  · exact zoff_tr (zoff_tr (zoff_tr (zoff_put (by simp)) (zoff_put (by simp))) (zoff_put (by simp))) (zoff_put (by simp))
  · intro a ha k
    simp only [List.mem_cons, List.not_mem_nil, or_false] at ha
    rcases ha with rfl | rfl | rfl | rfl <;> simp (disch := omega) only [zput_ne, zput_in]
def XNr (l : List zNote) (c : Nat) (σ : zV) : Prop := σ 12 c = nI l.length ∧ ∀ k, k < l.length → XR (zg l k zn0) (c * 4 + k) σ
def zfr (L : List Nat) (lo hi : Nat) (σ σ' : zV) : Prop := ∀ a, a ∈ L → ∀ i, (i < lo ∨ hi ≤ i) → σ' a i = σ a i
theorem XR_of {n : zNote} {i i' : Nat} {σ σ' : zV} (h : XR n i σ) (e : ∀ a, a ∈ [13, 14, 15, 16] → σ' a i' = σ a i) : XR n i' σ' := by
  obtain ⟨h1, h2, h3, h4⟩ := h
  exact ⟨(e 13 (by simp)).trans h1, (e 14 (by simp)).trans h2, (e 15 (by simp)).trans h3, (e 16 (by simp)).trans h4⟩
theorem XN_up {notes : Nat → List zNote} {σ σ' : zV} {c : Nat} {l : List zNote} (h : XN notes σ) (hz : ∀ c', c' < 4 → (notes c').length ≤ 4) (h1 : XNr l c σ') (h2 : zfr [13, 14, 15, 16] (c * 4) (c * 4 + 4) σ σ') (h3 : ∀ c', c' ≠ c → σ' 12 c' = σ 12 c') : XN (va_up notes c l) σ' := by
  intro c' hc'
  by_cases e : c' = c
  · subst e
    rw [va_up_self]
    exact h1
  · rw [va_up_ne _ _ e]
    obtain ⟨g1, g2⟩ := h c' hc'
    have g3 := hz c' hc'
    exact ⟨(h3 c' e).trans g1, fun k hk => XR_of (g2 k hk) (fun a ha => h2 a ha _ (by omega))⟩
/-- the notes that a call to forget takes away -/
def zmF (s : Nat) (p : Int32) (n : zNote) : Bool := decide (n.1 = s) && (decide (p = -nI 1) || decide (nI n.2.1 = p))
def zkeep (s : Nat) (p : Int32) (l : List zNote) : List zNote := l.filter (fun n => !zmF s p n)
theorem zkeep_take {s : Nat} {p : Int32} {l : List zNote} {k : Nat} (h : k < l.length) : zkeep s p (l.take (k + 1)) = zkeep s p (l.take k) ++ (if zmF s p (zg l k zn0) = true then [] else [zg l k zn0]) := by
  unfold zkeep
  rw [List.take_succ, zg_some (x := zn0) h, List.filter_append]
  congr 1
  simp only [Option.toList, List.filter_cons, List.filter_nil]
  cases zmF s p (zg l k zn0) <;> simp
theorem zkeep_le {s : Nat} {p : Int32} {l : List zNote} : (zkeep s p l).length ≤ l.length := List.length_filter_le _ _
set_option maxHeartbeats 4000000 in
theorem X_forget_loop {b : Bool} {d : Nat} {Q : zQ} {σ : zV} {l : List zNote} {c s : Nat} {p : Int32} (hc : c < 4) (hs : s < 3) (hl : l.length ≤ 4) (hI : ∀ n ∈ l, n.1 < 3 ∧ n.2.1 < 16)
    (hQ : ∀ σ', zoff [12, 13, 14, 15, 16] σ σ' → XNr (zkeep s p l) c σ' → zfr [13, 14, 15, 16] (c * 4) (c * 4 + 4) σ σ' → (∀ c', c' ≠ c → σ' 12 c' = σ 12 c') → Q (some (.int (nI (l.length - (zkeep s p l).length)))) σ') :
    ∀ n k σ', n + k = l.length → zoff [13, 14, 15, 16] σ σ' → zfr [13, 14, 15, 16] (c * 4) (c * 4 + 4) σ σ' → (∀ j, j < (zkeep s p (l.take k)).length → XR (zg (zkeep s p (l.take k)) j zn0) (c * 4 + j) σ') → (∀ j, k ≤ j → j < l.length → XR (zg l j zn0) (c * 4 + j) σ') →
      eX1_forget b (d + 2) Q 14 [.ref 11, .int (nI c), .int (nI s), .int p, .int (nI l.length), .int (nI (zkeep s p (l.take k)).length), .int (nI k)] [] σ' := by
  intro n
  induction n with
  | zero =>
    intro k σ' hk h1 h2 h3 h4
    have ek : l.take k = l := List.take_of_length_le (by omega)
    rw [ek] at h3 ⊢
    have hle := zkeep_le (s := s) (p := p) (l := l)
    have h12 : σ' 12 = σ 12 := h1 12 (by simp)
    rw [bX1_forget_14]
    simp (disch := omega) only [nI_add, pk_mul, pk_sub, nI_clamp, nI_ltE, nI_leE, nI_eqE, nI_m, nI_m', nI_lt0, vp_inE, zc3, zc4, zc5, zc16, zc20, zc40, true_implies, false_implies, not_true_eq_false, not_false_eq_true, true_and, and_true, eq_self, implies_true, z_toL, z_toN, List.cons_append, List.nil_append]
    refine ⟨fun _ => ⟨hc, hQ _ ?_ ?_ ?_ ?_⟩, fun q => absurd (by omega) q⟩
    · exact zoff_tr (zoff_wk h1 (by simp)) (zoff_put (by simp))
    · refine ⟨zput_ii, fun j hj => XR_of (h3 j hj) (fun a ha => ?_)⟩
      rw [zput_ne (by simp only [List.mem_cons, List.not_mem_nil, or_false] at ha; omega)]
    · intro a ha i hi
      rw [zput_ne (by simp only [List.mem_cons, List.not_mem_nil, or_false] at ha; omega)]
      exact h2 a ha i hi
    · intro c' hc'
      rw [zput_in' hc', h12]
  | succ n ih =>
    intro k σ' hk h1 h2 h3 h4
    obtain ⟨g1, g2, g3, g4⟩ := h4 k (by omega) (by omega)
    obtain ⟨i1, i2⟩ := hI _ (zg_mem (x := zn0) (show k < l.length by omega))
    have hP : (zkeep s p (l.take k)).length ≤ k := by
      have := zkeep_le (s := s) (p := p) (l := l.take k)
      simp only [List.length_take] at this
      omega
    have hT := zkeep_take (s := s) (p := p) (l := l) (k := k) (by omega)
    have hout : zmF s p (zg l k zn0) = true → eX1_forget b (d + 2) Q 14 [.ref 11, .int (nI c), .int (nI s), .int p, .int (nI l.length), .int (nI (zkeep s p (l.take k)).length), .int (nI (k + 1))] [] σ' := by
      intro hm
      rw [if_pos hm, List.append_nil] at hT
      have := ih (k + 1) σ' (by omega) h1 h2 (by rw [hT]; exact h3) (fun j z1 z2 => h4 j (by omega) z2)
      rw [hT] at this
      exact this
    have hin : zmF s p (zg l k zn0) = false → zCall (zUn b) (d + 2) yX1_move [.ref 11, .int (nI c), .int (nI k), .int (nI (zkeep s p (l.take k)).length)] σ' (fun v σ' => eX1_forget b (d + 2) Q 42 [.ref 11, .int (nI c), .int (nI s), .int p, .int (nI l.length), .int (nI (zkeep s p (l.take k)).length), .int (nI k)] (v.toList ++ []) σ') := by
      intro hm
      rw [if_neg (by rw [hm]; decide)] at hT
      have hlen : (zkeep s p (l.take (k + 1))).length = (zkeep s p (l.take k)).length + 1 := by rw [hT]; simp
      refine X_move hc (by omega) (by omega) (fun σ2 m1 m2 => ?_)
      simp only [z_toN, List.nil_append]
      rw [bX1_forget_42]
      simp only [nI_add]
      rw [← hlen]
      refine ih (k + 1) σ2 (by omega) (zoff_tr h1 m1) ?_ ?_ ?_
      · intro a ha i hi
        rw [m2 a ha, if_neg (by omega)]
        exact h2 a ha i hi
      · intro j hj
        rw [hlen] at hj
        by_cases hj2 : j < (zkeep s p (l.take k)).length
        · rw [hT, zg_apl hj2]
          exact XR_of (h3 j hj2) (fun a ha => by rw [m2 a ha, if_neg (by omega)])
        · have ej : j = (zkeep s p (l.take k)).length := by omega
          subst ej
          rw [hT, zg_last]
          exact XR_of ⟨g1, g2, g3, g4⟩ (fun a ha => by rw [m2 a ha, if_pos rfl])
      · intro j z1 z2
        exact XR_of (h4 j (by omega) z2) (fun a ha => by rw [m2 a ha, if_neg (by omega)])
    rw [bX1_forget_14]
    simp (disch := omega) only [nI_add, pk_mul, pk_sub, nI_clamp, nI_ltE, nI_leE, nI_eqE, nI_m, nI_m', nI_lt0, vp_inE, zc3, zc4, zc5, zc16, zc20, zc40, true_implies, false_implies, not_true_eq_false, not_false_eq_true, true_and, and_true, eq_self, implies_true, z_toL, z_toN, List.cons_append, List.nil_append, g1, g2]
    refine ⟨fun q => absurd q (by omega), fun _ => ⟨by omega, fun q => hin (by simp [zmF, q]), fun q => ⟨fun q2 => hout (by simp [zmF, q, q2]), fun q2 => ⟨by omega, fun q3 => hin (by simp [zmF, q2, q3]), fun q3 => hout (by simp [zmF, q, q3])⟩⟩⟩⟩
theorem X_forget {b : Bool} {d : Nat} {Q : zQ} {σ : zV} {notes : Nat → List zNote} {c s : Nat} {p : Int32} (hN : XN notes σ) (hI : zIN notes) (hc : c < 4) (hs : s < 3)
    (hQ : ∀ σ', zoff [12, 13, 14, 15, 16] σ σ' → XN (va_up notes c (zkeep s p (notes c))) σ' → Q (some (.int (nI ((notes c).length - (zkeep s p (notes c)).length)))) σ') : zCall (zUn b) (d + 3) yX1_forget [.ref 11, .int (nI c), .int (nI s), .int p] σ Q := by
  obtain ⟨h1, h2⟩ := hN c hc
  obtain ⟨h3, h4, h5⟩ := hI c hc
  rw [nX1_forget, bX1_forget_0]
  simp (disch := omega) only [nI_add, pk_mul, pk_sub, nI_clamp, nI_ltE, nI_leE, nI_eqE, nI_m, nI_m', nI_lt0, vp_inE, zc3, zc4, zc5, zc16, zc20, zc40, true_implies, false_implies, not_true_eq_false, not_false_eq_true, true_and, and_true, eq_self, implies_true, z_toL, z_toN, List.cons_append, List.nil_append, h1]
  refine ⟨hc, X_forget_loop (l := notes c) (p := p) hc hs h3 (fun n hn => ⟨(h4 n hn).1, (h4 n hn).2.1⟩) (fun σ' g1 g2 g3 g4 => hQ σ' g1 (XN_up hN (fun c' hc' => (hI c' hc').1) g2 g3 g4)) (notes c).length 0 σ rfl zoff_rf (fun _ _ _ _ => rfl) (fun j hj => absurd hj (by simp [zkeep])) (fun j _ hj => h2 j hj)⟩
