/-! the class's helpers -/
def zmN (n : zNote) (s p : Nat) : Bool := decide (n.1 = s) && decide (n.2.1 = p)
theorem zmN_1 {n : zNote} {s p : Nat} (h : ¬ n.1 = s) : zmN n s p = false := by simp [zmN, h]
theorem zmN_2 {n : zNote} {s p : Nat} (h : ¬ n.2.1 = p) : zmN n s p = false := by simp [zmN, h]
theorem zmN_3 {n : zNote} {s p : Nat} (h : n.1 = s) (h2 : n.2.1 = p) : zmN n s p = true := by simp [zmN, h, h2]
/-- where a note of a space and page is -/
def zfn (l : List zNote) (s p : Nat) : Option Nat := zfst (fun k => zmN (zg l k zn0) s p) l.length
set_option maxHeartbeats 2000000 in
theorem X_find_loop {b : Bool} {d : Nat} {Q : zQ} {σ : zV} {notes : Nat → List zNote} {c s p : Nat} (hN : XN notes σ) (hI : zIN notes) (hc : c < 4) (hs : s < 3) (hp : p < 16) (hQ : Q (some (.int (zcode (zfn (notes c) s p)))) σ) :
    ∀ n k, n + k = (notes c).length → (∀ j, j < k → zmN (zg (notes c) j zn0) s p = false) → eX1_find b (d + 2) Q 3 [.ref 11, .int (nI c), .int (nI s), .int (nI p), .int (nI k)] [] σ := by
  obtain ⟨h1, h2⟩ := hN c hc
  obtain ⟨h3, h4, h5⟩ := hI c hc
  intro n
  induction n with
  | zero =>
    intro k hk hj
    have e : zfn (notes c) s p = none := zfst_none (fun j hjl => hj j (by omega))
    rw [e] at hQ
    rw [bX1_find_3]
    simp (disch := omega) only [nI_add, pk_mul, pk_sub, nI_clamp, nI_ltE, nI_leE, nI_eqE, nI_m, nI_m', nI_lt0, vp_inE, zc3, zc4, zc5, zc16, zc20, zc40, true_implies, false_implies, not_true_eq_false, not_false_eq_true, true_and, and_true, eq_self, implies_true, z_toL, z_toN, List.cons_append, List.nil_append, h1]
    refine ⟨hc, fun _ => hQ, fun q => absurd (by omega) q⟩
  | succ n ih =>
    intro k hk hj
    obtain ⟨g1, g2, g3, g4⟩ := h2 k (by omega)
    obtain ⟨i1, i2, i3, i4⟩ := h4 _ (zg_mem (x := zn0) (show k < (notes c).length by omega))
    have hnx : zmN (zg (notes c) k zn0) s p = false → eX1_find b (d + 2) Q 3 [.ref 11, .int (nI c), .int (nI s), .int (nI p), .int (nI (k + 1))] [] σ := fun q => ih (k + 1) (by omega) (fun j hjk => by
      rcases Nat.lt_or_ge j k with z | z
      · exact hj j z
      · rw [show j = k by omega]; exact q)
    have hys : zmN (zg (notes c) k zn0) s p = true → Q (some (.int (nI k))) σ := fun q => by
      have e : zfn (notes c) s p = some k := zfst_some hj (by omega) q
      rw [e] at hQ
      exact hQ
    rw [bX1_find_3]
    simp (disch := omega) only [nI_add, pk_mul, pk_sub, nI_clamp, nI_ltE, nI_leE, nI_eqE, nI_m, nI_m', nI_lt0, vp_inE, zc3, zc4, zc5, zc16, zc20, zc40, true_implies, false_implies, not_true_eq_false, not_false_eq_true, true_and, and_true, eq_self, implies_true, z_toL, z_toN, List.cons_append, List.nil_append, h1, g1, g2]
    refine ⟨hc, fun q => absurd q (by omega), fun _ => ⟨by omega, fun q => hnx (zmN_1 q), fun q => ⟨by omega, fun q2 => hnx (zmN_2 q2), fun q2 => hys (zmN_3 q q2)⟩⟩⟩
theorem X_find {b : Bool} {d : Nat} {Q : zQ} {σ : zV} {notes : Nat → List zNote} {c s p : Nat} (hN : XN notes σ) (hI : zIN notes) (hc : c < 4) (hs : s < 3) (hp : p < 16) (hQ : Q (some (.int (zcode (zfn (notes c) s p)))) σ) : zCall (zUn b) (d + 3) yX1_find [.ref 11, .int (nI c), .int (nI s), .int (nI p)] σ Q := by
  rw [nX1_find, bX1_find_0]
  exact X_find_loop hN hI hc hs hp hQ (notes c).length 0 rfl (fun j h => absurd h (by omega))
theorem X_move {b : Bool} {d : Nat} {Q : zQ} {σ : zV} {c i j : Nat} (hc : c < 4) (hi : i < 4) (hj : j < 4) (hQ : ∀ σ2, zoff [13, 14, 15, 16] σ σ2 → (∀ a, a ∈ [13, 14, 15, 16] → ∀ k, σ2 a k = if k = c * 4 + j then σ a (c * 4 + i) else σ a k) → Q none σ2) : zCall (zUn b) (d + 1) yX1_move [.ref 11, .int (nI c), .int (nI i), .int (nI j)] σ Q := by
  rw [sX1_move]
  simp (disch := omega) only [nI_add, pk_mul, pk_sub, nI_clamp, nI_ltE, nI_leE, nI_eqE, nI_m, nI_m', nI_lt0, vp_inE, zc3, zc4, zc5, zc16, zc20, zc40, true_implies, false_implies, not_true_eq_false, not_false_eq_true, true_and, and_true, eq_self, implies_true, z_toL, z_toN, List.cons_append, List.nil_append, zput_ne, zput_in]
  refine ⟨by omega, by omega, by omega, by omega, by omega, by omega, by omega, by omega, hQ _ ?_ ?_⟩
  · exact zoff_tr (zoff_tr (zoff_tr (zoff_put (by simp)) (zoff_put (by simp))) (zoff_put (by simp))) (zoff_put (by simp))
  · intro a ha k
    simp only [List.mem_cons, List.not_mem_nil, or_false] at ha
    rcases ha with rfl | rfl | rfl | rfl <;> simp (disch := omega) only [zput_ne, zput_in]
def XNr (l : List zNote) (c : Nat) (σ : zV) : Prop := σ 12 c = nI l.length ∧ ∀ k, k < l.length → XR (zg l k zn0) (c * 4 + k) σ
def zfr (L : List Nat) (lo hi : Nat) (σ σ' : zV) : Prop := ∀ a, a ∈ L → ∀ i, (i < lo ∨ hi ≤ i) → σ' a i = σ a i
theorem XR_of {n : zNote} {i i' : Nat} {σ σ' : zV} (h : XR n i σ) (e : ∀ a, a ∈ [13, 14, 15, 16] → σ' a i' = σ a i) : XR n i' σ' := by
  obtain ⟨h1, h2, h3, h4⟩ := h
  exact ⟨(e 13 (by simp)).trans h1, (e 14 (by simp)).trans h2, (e 15 (by simp)).trans h3, (e 16 (by simp)).trans h4⟩
theorem XN_up {notes : Nat → List zNote} {σ σ' : zV} {c : Nat} {l : List zNote} (h : XN notes σ) (hz : ∀ c', c' < 4 → (notes c').length ≤ 4) (h1 : XNr l c σ') (h2 : zfr [13, 14, 15, 16] (c * 4) (c * 4 + 4) σ σ') (h3 : ∀ c', c' ≠ c → σ' 12 c' = σ 12 c') : XN (va_up notes c l) σ' := by
  intro c' hc'
  by_cases e : c' = c
  · subst e
    rw [va_up_self]
    exact h1
  · rw [va_up_ne _ _ e]
    obtain ⟨g1, g2⟩ := h c' hc'
    have g3 := hz c' hc'
    exact ⟨(h3 c' e).trans g1, fun k hk => XR_of (g2 k hk) (fun a ha => h2 a ha _ (by omega))⟩
/-- the notes that a call to forget takes away -/
def zmF (s : Nat) (p : Int32) (n : zNote) : Bool := decide (n.1 = s) && (decide (p = -nI 1) || decide (nI n.2.1 = p))
def zkeep (s : Nat) (p : Int32) (l : List zNote) : List zNote := l.filter (fun n => !zmF s p n)
theorem zkeep_take {s : Nat} {p : Int32} {l : List zNote} {k : Nat} (h : k < l.length) : zkeep s p (l.take (k + 1)) = zkeep s p (l.take k) ++ (if zmF s p (zg l k zn0) = true then [] else [zg l k zn0]) := by
  unfold zkeep
  rw [List.take_succ, zg_some (x := zn0) h, List.filter_append]
  congr 1
  simp only [Option.toList, List.filter_cons, List.filter_nil]
  cases zmF s p (zg l k zn0) <;> simp
theorem zkeep_le {s : Nat} {p : Int32} {l : List zNote} : (zkeep s p l).length ≤ l.length := List.length_filter_le _ _
set_option maxHeartbeats 4000000 in
theorem X_forget_loop {b : Bool} {d : Nat} {Q : zQ} {σ : zV} {l : List zNote} {c s : Nat} {p : Int32} (hc : c < 4) (hs : s < 3) (hl : l.length ≤ 4) (hI : ∀ n ∈ l, n.1 < 3 ∧ n.2.1 < 16)
    (hQ : ∀ σ', zoff [12, 13, 14, 15, 16] σ σ' → XNr (zkeep s p l) c σ' → zfr [13, 14, 15, 16] (c * 4) (c * 4 + 4) σ σ' → (∀ c', c' ≠ c → σ' 12 c' = σ 12 c') → Q (some (.int (nI (l.length - (zkeep s p l).length)))) σ') :
    ∀ n k σ', n + k = l.length → zoff [13, 14, 15, 16] σ σ' → zfr [13, 14, 15, 16] (c * 4) (c * 4 + 4) σ σ' → (∀ j, j < (zkeep s p (l.take k)).length → XR (zg (zkeep s p (l.take k)) j zn0) (c * 4 + j) σ') → (∀ j, k ≤ j → j < l.length → XR (zg l j zn0) (c * 4 + j) σ') →
      eX1_forget b (d + 2) Q 14 [.ref 11, .int (nI c), .int (nI s), .int p, .int (nI l.length), .int (nI (zkeep s p (l.take k)).length), .int (nI k)] [] σ' := by
  intro n
  induction n with
  | zero =>
    intro k σ' hk h1 h2 h3 h4
    have ek : l.take k = l := List.take_of_length_le (by omega)
    rw [ek] at h3 ⊢
    have hle := zkeep_le (s := s) (p := p) (l := l)
    have h12 : σ' 12 = σ 12 := h1 12 (by simp)
    rw [bX1_forget_14]
    simp (disch := omega) only [nI_add, pk_mul, pk_sub, nI_clamp, nI_ltE, nI_leE, nI_eqE, nI_m, nI_m', nI_lt0, vp_inE, zc3, zc4, zc5, zc16, zc20, zc40, true_implies, false_implies, not_true_eq_false, not_false_eq_true, true_and, and_true, eq_self, implies_true, z_toL, z_toN, List.cons_append, List.nil_append]
    refine ⟨fun _ => ⟨hc, hQ _ ?_ ?_ ?_ ?_⟩, fun q => absurd (by omega) q⟩
    · exact zoff_tr (zoff_wk h1 (by simp)) (zoff_put (by simp))
    · refine ⟨zput_ii, fun j hj => XR_of (h3 j hj) (fun a ha => ?_)⟩
      rw [zput_ne (by simp only [List.mem_cons, List.not_mem_nil, or_false] at ha; omega)]
    · intro a ha i hi
      rw [zput_ne (by simp only [List.mem_cons, List.not_mem_nil, or_false] at ha; omega)]
      exact h2 a ha i hi
    · intro c' hc'
      rw [zput_in' hc', h12]
  | succ n ih =>
    intro k σ' hk h1 h2 h3 h4
    obtain ⟨g1, g2, g3, g4⟩ := h4 k (by omega) (by omega)
    obtain ⟨i1, i2⟩ := hI _ (zg_mem (x := zn0) (show k < l.length by omega))
    have hP : (zkeep s p (l.take k)).length ≤ k := by
      have := zkeep_le (s := s) (p := p) (l := l.take k)
      simp only [List.length_take] at this
      omega
    have hT := zkeep_take (s := s) (p := p) (l := l) (k := k) (by omega)
    have hout : zmF s p (zg l k zn0) = true → eX1_forget b (d + 2) Q 14 [.ref 11, .int (nI c), .int (nI s), .int p, .int (nI l.length), .int (nI (zkeep s p (l.take k)).length), .int (nI (k + 1))] [] σ' := by
      intro hm
      rw [if_pos hm, List.append_nil] at hT
      have := ih (k + 1) σ' (by omega) h1 h2 (by rw [hT]; exact h3) (fun j z1 z2 => h4 j (by omega) z2)
      rw [hT] at this
      exact this
    have hin : zmF s p (zg l k zn0) = false → zCall (zUn b) (d + 2) yX1_move [.ref 11, .int (nI c), .int (nI k), .int (nI (zkeep s p (l.take k)).length)] σ' (fun v σ' => eX1_forget b (d + 2) Q 42 [.ref 11, .int (nI c), .int (nI s), .int p, .int (nI l.length), .int (nI (zkeep s p (l.take k)).length), .int (nI k)] (v.toList ++ []) σ') := by
      intro hm
      rw [if_neg (by rw [hm]; decide)] at hT
      have hlen : (zkeep s p (l.take (k + 1))).length = (zkeep s p (l.take k)).length + 1 := by rw [hT]; simp
      refine X_move hc (by omega) (by omega) (fun σ2 m1 m2 => ?_)
      simp only [z_toN, List.nil_append]
      rw [bX1_forget_42]
      simp only [nI_add]
      rw [← hlen]
      refine ih (k + 1) σ2 (by omega) (zoff_tr h1 m1) ?_ ?_ ?_
      · intro a ha i hi
        rw [m2 a ha, if_neg (by omega)]
        exact h2 a ha i hi
      · intro j hj
        rw [hlen] at hj
        by_cases hj2 : j < (zkeep s p (l.take k)).length
        · rw [hT, zg_apl hj2]
          exact XR_of (h3 j hj2) (fun a ha => by rw [m2 a ha, if_neg (by omega)])
        · have ej : j = (zkeep s p (l.take k)).length := by omega
          subst ej
          rw [hT, zg_last]
          exact XR_of ⟨g1, g2, g3, g4⟩ (fun a ha => by rw [m2 a ha, if_pos rfl])
      · intro j z1 z2
        exact XR_of (h4 j (by omega) z2) (fun a ha => by rw [m2 a ha, if_neg (by omega)])
    rw [bX1_forget_14]
    simp (disch := omega) only [nI_add, pk_mul, pk_sub, nI_clamp, nI_ltE, nI_leE, nI_eqE, nI_m, nI_m', nI_lt0, vp_inE, zc3, zc4, zc5, zc16, zc20, zc40, true_implies, false_implies, not_true_eq_false, not_false_eq_true, true_and, and_true, eq_self, implies_true, z_toL, z_toN, List.cons_append, List.nil_append, g1, g2]
    refine ⟨fun q => absurd q (by omega), fun _ => ⟨by omega, fun q => hin (by simp [zmF, q]), fun q => ⟨fun q2 => hout (by simp [zmF, q, q2]), fun q2 => ⟨by omega, fun q3 => hin (by simp [zmF, q2, q3]), fun q3 => hout (by simp [zmF, q, q3])⟩⟩⟩⟩
theorem X_forget {b : Bool} {d : Nat} {Q : zQ} {σ : zV} {notes : Nat → List zNote} {c s : Nat} {p : Int32} (hN : XN notes σ) (hI : zIN notes) (hc : c < 4) (hs : s < 3)
    (hQ : ∀ σ', zoff [12, 13, 14, 15, 16] σ σ' → XN (va_up notes c (zkeep s p (notes c))) σ' → Q (some (.int (nI ((notes c).length - (zkeep s p (notes c)).length)))) σ') : zCall (zUn b) (d + 3) yX1_forget [.ref 11, .int (nI c), .int (nI s), .int p] σ Q := by
  obtain ⟨h1, h2⟩ := hN c hc
  obtain ⟨h3, h4, h5⟩ := hI c hc
  rw [nX1_forget, bX1_forget_0]
  simp (disch := omega) only [nI_add, pk_mul, pk_sub, nI_clamp, nI_ltE, nI_leE, nI_eqE, nI_m, nI_m', nI_lt0, vp_inE, zc3, zc4, zc5, zc16, zc20, zc40, true_implies, false_implies, not_true_eq_false, not_false_eq_true, true_and, and_true, eq_self, implies_true, z_toL, z_toN, List.cons_append, List.nil_append, h1]
  refine ⟨hc, X_forget_loop (l := notes c) (p := p) hc hs h3 (fun n hn => ⟨(h4 n hn).1, (h4 n hn).2.1⟩) (fun σ' g1 g2 g3 g4 => hQ σ' g1 (XN_up hN (fun c' hc' => (hI c' hc').1) g2 g3 g4)) (notes c).length 0 σ rfl zoff_rf (fun _ _ _ _ => rfl) (fun j hj => absurd hj (by simp [zkeep])) (fun j _ hj => h2 j hj)⟩
/-- a note more: the eldest one of four is lost -/
def zadd (l : List zNote) (n : zNote) : List zNote := (if l.length = 4 then l.tail else l) ++ [n]
theorem XN_app {notes : Nat → List zNote} {σ : zV} {c : Nat} {n : zNote} (hN : XN notes σ) (hz : ∀ c', c' < 4 → (notes c').length ≤ 4) (hc : c < 4) (hl : (notes c).length < 4) :
    XN (va_up notes c (notes c ++ [n])) (zput (zput (zput (zput (zput σ 13 (c * 4 + (notes c).length) (nI n.1)) 14 (c * 4 + (notes c).length) (nI n.2.1)) 15 (c * 4 + (notes c).length) (zt n.2.2.1)) 16 (c * 4 + (notes c).length) n.2.2.2) 12 c (nI ((notes c).length + 1))) := by
  obtain ⟨h1, h2⟩ := hN c hc
  refine XN_up hN hz ⟨?_, fun k hk => ?_⟩ ?_ ?_
  · rw [zput_ii, List.length_append]; rfl
  · rw [List.length_append] at hk
    simp only [List.length_singleton] at hk
    by_cases hk2 : k < (notes c).length
    · rw [zg_apl hk2]
      obtain ⟨g1, g2, g3, g4⟩ := h2 k hk2
      refine ⟨?_, ?_, ?_, ?_⟩ <;> simp (disch := omega) only [zput_ne, zput_in, g1, g2, g3, g4] <;> rw [if_neg (by omega)]
    · have e : k = (notes c).length := by omega
      subst e
      rw [zg_last]
      refine ⟨?_, ?_, ?_, ?_⟩ <;> simp (disch := omega) only [zput_ne, zput_in, if_true]
  · intro a ha i hi
    simp only [List.mem_cons, List.not_mem_nil, or_false] at ha
    rcases ha with rfl | rfl | rfl | rfl <;> simp (disch := omega) only [zput_ne, zput_in] <;> rw [if_neg (by omega)]
  · intro c' hc'
    rw [zput_in' hc']
    simp (disch := omega) only [zput_ne, zput_in]
theorem zkeep_head {l : List zNote} (hl : l ≠ []) (hI : ∀ n ∈ l, n.2.1 < 16) (hp : l.Pairwise (fun a b => ¬ (a.1 = b.1 ∧ a.2.1 = b.2.1))) : zkeep (zg l 0 zn0).1 (nI (zg l 0 zn0).2.1) l = l.tail := by
  cases l with
  | nil => exact absurd rfl hl
  | cons a t =>
    have e0 : zg (a :: t) 0 zn0 = a := zg_of rfl
    rw [e0]
    unfold zkeep
    rw [List.filter_cons, if_neg (by simp [zmF])]
    rw [List.tail_cons, List.filter_eq_self]
    intro n hn
    have h1 := (List.pairwise_cons.mp hp).1 n hn
    have h2 := hI a (by simp)
    have h3 := hI n (by simp [hn])
    unfold zmF
    by_cases h4 : n.1 = a.1
    · have h5 : ¬ n.2.1 = a.2.1 := fun q => h1 ⟨h4.symm, q.symm⟩
      rw [decide_eq_false (show ¬ nI a.2.1 = -nI 1 from by rw [nI_m (by omega) (by omega) (by omega)]; exact id), decide_eq_false (show ¬ nI n.2.1 = nI a.2.1 from by rw [nI_eqE (by omega) (by omega)]; exact h5)]
      simp
    · rw [decide_eq_false h4]
      simp
theorem X_keep {b : Bool} {d : Nat} {Q : zQ} {σ : zV} {notes : Nat → List zNote} {c : Nat} {n : zNote} (hN : XN notes σ) (hI : zIN notes) (hc : c < 4)
    (hQ : ∀ σ', zoff [12, 13, 14, 15, 16] σ σ' → XN (va_up notes c (zadd (notes c) n)) σ' → Q none σ') : zCall (zUn b) (d + 4) yX1_keep [.ref 11, .int (nI c), .int (nI n.1), .int (nI n.2.1), .int (zt n.2.2.1), .int n.2.2.2] σ Q := by
  obtain ⟨h1, h2⟩ := hN c hc
  obtain ⟨h3, h4, h5⟩ := hI c hc
  have hz : ∀ c', c' < 4 → (notes c').length ≤ 4 := fun c' hc' => (hI c' hc').1
  rw [nX1_keep, bX1_keep_0]
  simp (disch := omega) only [nI_add, pk_mul, pk_sub, nI_clamp, nI_ltE, nI_leE, nI_eqE, nI_m, nI_m', nI_lt0, vp_inE, zc3, zc4, zc5, zc16, zc20, zc40, true_implies, false_implies, not_true_eq_false, not_false_eq_true, true_and, and_true, eq_self, implies_true, z_toL, z_toN, List.cons_append, List.nil_append, zput_ne, zput_in, h1]
  refine ⟨hc, fun q => ?_, fun q => ?_⟩
  · have hA := XN_app (n := n) hN hz hc (by omega)
    refine ⟨hc, by omega, by omega, by omega, by omega, hc, hc, ?_⟩
    refine hQ _ ?_ ?_
    · exact zoff_tr (zoff_tr (zoff_tr (zoff_tr (zoff_put (by simp)) (zoff_put (by simp))) (zoff_put (by simp))) (zoff_put (by simp))) (zoff_put (by simp))
    · rw [zadd, if_neg q]
      exact hA
  · obtain ⟨g1, g2, g3, g4⟩ := h2 0 (by omega)
    obtain ⟨i1, i2, i3, i4⟩ := h4 _ (zg_mem (x := zn0) (show 0 < (notes c).length by omega))
    simp (disch := omega) only [g1, g2]
    refine ⟨by omega, by omega, X_forget hN hI hc i1 (fun σ1 m1 m2 => ?_)⟩
    have hk := zkeep_head (l := notes c) (by intro e; rw [e] at q; simp at q) (fun n hn => (h4 n hn).2.1) h5
    rw [hk] at m2 ⊢
    simp only [z_toL, List.cons_append, List.nil_append]
    rw [bX1_keep_27]
    have hlt : (notes c).tail.length = 3 := by rw [List.length_tail, q]
    have hz2 : ∀ c', c' < 4 → (va_up notes c (notes c).tail c').length ≤ 4 := by
      intro c' hc'
      by_cases e : c' = c
      · subst e; rw [va_up_self]; omega
      · rw [va_up_ne _ _ e]; exact hz c' hc'
    have h1' : σ1 12 c = nI 3 := by
      have := (m2 c hc).1
      rw [va_up_self, hlt] at this
      exact this
    have hA := XN_app (n := n) m2 hz2 hc (by rw [va_up_self]; omega)
    rw [va_up_self, hlt] at hA
    simp (disch := omega) only [nI_add, pk_mul, pk_sub, nI_clamp, nI_ltE, nI_leE, nI_eqE, nI_m, nI_m', nI_lt0, vp_inE, zc3, zc4, zc5, zc16, zc20, zc40, true_implies, false_implies, not_true_eq_false, not_false_eq_true, true_and, and_true, eq_self, implies_true, z_toL, z_toN, List.cons_append, List.nil_append, zput_ne, zput_in, h1']
    refine ⟨hc, by omega, by omega, by omega, by omega, hc, hc, hQ _ ?_ ?_⟩
    · refine zoff_tr m1 (zoff_tr (zoff_tr (zoff_tr (zoff_tr (zoff_put (by simp)) (zoff_put (by simp))) (zoff_put (by simp))) (zoff_put (by simp))) (zoff_put (by simp)))
    · have e : va_up (va_up notes c (notes c).tail) c ((notes c).tail ++ [n]) = va_up notes c (zadd (notes c) n) := by
        rw [zadd, if_pos q]
        funext c'
        simp only [va_up]
        split <;> rfl
      rw [e] at hA
      exact hA
/-- a page's history -/
def zadh (l : List (Nat × Int32)) (x : Nat × Int32) : List (Nat × Int32) := (if l.length = 20 then l.tail else l) ++ [x]
theorem XH_up {hist : Nat → List (Nat × Int32)} {σ σ' : zV} {p : Nat} {l : List (Nat × Int32)} (h : XH hist σ) (hz : ∀ q, q < 48 → (hist q).length ≤ 20) (h1 : XHr l p σ') (h2 : zfr [4, 5] (p * 20) (p * 20 + 20) σ σ') (h3 : ∀ q, q ≠ p → σ' 3 q = σ 3 q) : XH (va_up hist p l) σ' := by
  intro q hq
  by_cases e : q = p
  · subst e
    rw [va_up_self]
    exact h1
  · rw [va_up_ne _ _ e]
    obtain ⟨g1, g2⟩ := h q hq
    have g3 := hz q hq
    refine ⟨(h3 q e).trans g1, fun k hk => ?_⟩
    rw [h2 4 (by simp) _ (by omega), h2 5 (by simp) _ (by omega)]
    exact g2 k hk
theorem X_change75 {b : Bool} {d : Nat} {Q : zQ} {σ : zV} {l : List (Nat × Int32)} {p e : Nat} {t v1 v2 : Int32} (hp : p < 48) (hl : l.length < 20) (h : XHr l p σ)
    (hQ : ∀ σ', zoff [3, 4, 5] σ σ' → XHr (l ++ [(e, t)]) p σ' → zfr [4, 5] (p * 20) (p * 20 + 20) σ σ' → (∀ q, q ≠ p → σ' 3 q = σ 3 q) → Q none σ') : eX4_change b (d + 1) Q 75 [.ref 1, .int v1, .int v2, .int (zt e), .int t, .int (nI p), .int (nI (p * 20))] [] σ := by
  obtain ⟨h1, h2⟩ := h
  rw [bX4_change_75]
  simp (disch := omega) only [nI_add, pk_mul, pk_sub, nI_clamp, nI_ltE, nI_leE, nI_eqE, nI_m, nI_m', nI_lt0, vp_inE, zc3, zc4, zc5, zc16, zc20, zc40, true_implies, false_implies, not_true_eq_false, not_false_eq_true, true_and, and_true, eq_self, implies_true, z_toL, z_toN, List.cons_append, List.nil_append, zput_ne, zput_in, h1]
  refine ⟨hp, by omega, hp, by omega, hp, hp, hQ _ ?_ ?_ ?_ ?_⟩
  · exact zoff_tr (zoff_tr (zoff_put (by simp)) (zoff_put (by simp))) (zoff_put (by simp))
  · refine ⟨?_, fun k hk => ?_⟩
    · rw [zput_ii, List.length_append]; rfl
    · rw [List.length_append] at hk
      simp only [List.length_singleton] at hk
      by_cases hk2 : k < l.length
      · obtain ⟨g1, g2⟩ := h2 k hk2
        rw [zg_apl hk2]
        constructor <;> simp (disch := omega) only [zput_ne, zput_in, g1, g2] <;> rw [if_neg (by omega)]
      · have ek : k = l.length := by omega
        subst ek
        rw [zg_last]
        constructor <;> simp (disch := omega) only [zput_ne, zput_in, if_true]
  · intro a ha i hi
    simp only [List.mem_cons, List.not_mem_nil, or_false] at ha
    rcases ha with rfl | rfl <;> simp (disch := omega) only [zput_ne, zput_in] <;> rw [if_neg (by omega)]
  · intro q hq
    rw [zput_in' hq]
    simp (disch := omega) only [zput_ne, zput_in]
theorem X_change {b : Bool} {d : Nat} {Q : zQ} {σ : zV} {hist : Nat → List (Nat × Int32)} {s pg e : Nat} {t : Int32} (hH : XH hist σ) (hI : zIH hist) (hs : s < 3) (hp : pg < 16)
    (hQ : ∀ σ', zoff [3, 4, 5] σ σ' → XH (va_up hist (s * 16 + pg) (zadh (hist (s * 16 + pg)) (e, t))) σ' → Q none σ') : zCall (zUn b) (d + 2) yX4_change [.ref 1, .int (nI s), .int (nI pg), .int (zt e), .int t] σ Q := by
  have hp48 : s * 16 + pg < 48 := by omega
  obtain ⟨h1, h2⟩ := hH _ hp48
  obtain ⟨h3, h4, h5⟩ := hI _ hp48
  have hz : ∀ q, q < 48 → (hist q).length ≤ 20 := fun q hq => (hI q hq).2.1
  rw [nX4_change, bX4_change_0]
  simp (disch := omega) only [nI_add, pk_mul, pk_sub, nI_clamp, nI_ltE, nI_leE, nI_eqE, nI_m, nI_m', nI_lt0, vp_inE, zc3, zc4, zc5, zc16, zc20, zc40, true_implies, false_implies, not_true_eq_false, not_false_eq_true, true_and, and_true, eq_self, implies_true, z_toL, z_toN, List.cons_append, List.nil_append, zput_ne, zput_in, h1]
  refine ⟨hp48, fun q => ?_, fun q => ?_⟩
  · refine X_change75 hp48 (by omega) ⟨h1, h2⟩ (fun σ' m1 m2 m3 m4 => hQ σ' m1 ?_)
    rw [zadh, if_neg q]
    exact XH_up hH hz m2 m3 m4
  · refine ⟨by omega, by omega, by omega, by omega, by omega, by omega, by omega, by omega, by omega, by omega, hp48, hp48, ?_⟩
    generalize hσ1 : zput _ 3 _ _ = σ1
    have k3 : ∀ i, σ1 3 i = if i = s * 16 + pg then nI 19 else σ 3 i := by
      intro i
      rw [← hσ1, zput_in]
      simp only [va_up]
      by_cases ei : i = s * 16 + pg
      · rw [if_pos ei, if_pos ei]
        simp only [show ¬ (3 : Nat) = 5 from by decide, show ¬ (3 : Nat) = 4 from by decide, if_false]
        rw [h1, q, pk_sub (by omega)]
      · rw [if_neg ei, if_neg ei]
        simp
    have k4 : ∀ i, σ1 4 i = if (s * 16 + pg) * 20 ≤ i ∧ i < (s * 16 + pg) * 20 + 19 then σ 4 (i + 1) else σ 4 i := by
      intro i
      rw [← hσ1, zput_ne (by decide)]
      simp only [va_up, va_cpy, show ¬ (4 : Nat) = 5 from by decide, if_false, if_true]
      split
      · congr 1; omega
      · rfl
    have k5 : ∀ i, σ1 5 i = if (s * 16 + pg) * 20 ≤ i ∧ i < (s * 16 + pg) * 20 + 19 then σ 5 (i + 1) else σ 5 i := by
      intro i
      rw [← hσ1, zput_ne (by decide)]
      simp only [va_up, va_cpy, show ¬ (5 : Nat) = 4 from by decide, if_false, if_true]
      split
      · congr 1; omega
      · rfl
    have ko : zoff [3, 4, 5] σ σ1 := by
      rw [← hσ1]
      exact zoff_tr (zoff_tr (zoff_up (by simp)) (zoff_up (by simp))) (zoff_put (by simp))
    have hlt : (hist (s * 16 + pg)).tail.length = 19 := by rw [List.length_tail, q]
    refine X_change75 (l := (hist (s * 16 + pg)).tail) hp48 (by omega) ⟨?_, fun k hk => ?_⟩ (fun σ' m1 m2 m3 m4 => hQ σ' (zoff_tr ko m1) ?_)
    · rw [k3, if_pos rfl, hlt]
    · rw [zg_tail (by omega), k4, k5, if_pos (by omega), if_pos (by omega)]
      exact h2 (k + 1) (by omega)
    · rw [zadh, if_pos q]
      refine XH_up hH hz m2 (fun a ha i hi => ?_) (fun i hi => ?_)
      · rw [m3 a ha i hi]
        simp only [List.mem_cons, List.not_mem_nil, or_false] at ha
        rcases ha with rfl | rfl
        · rw [k4, if_neg (by omega)]
        · rw [k5, if_neg (by omega)]
      · rw [m4 i hi, k3, if_neg hi]
