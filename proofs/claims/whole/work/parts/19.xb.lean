/-! the class: all calls, catching up, a shoot begun -/
def zI (n : Nat) (S : zSt) : Prop := zInv n S ∧ zIg2 S
theorem zI_wk {n m : Nat} {S : zSt} (h : zI n S) (hm : n ≤ m) : zI m S := ⟨zInv_wk h.1 hm, h.2⟩
theorem zI_set {n i : Nat} {v : Int32} {S : zSt} (h : zI n S) (hi : i ≠ 1) : zI n (sSet i v S) := ⟨zInv_set h.1 hi, h.2⟩
theorem zI_time {n : Nat} {S : zSt} (h : zI n S) : zI (n + 1) (sInc 1 S) := ⟨zInv_time h.1, h.2⟩
theorem zI_forg {n c s : Nat} {p : Int32} {S : zSt} (h : zI n S) : zI n (sForg c s p S) := ⟨zInv_forg h.1, h.2⟩
theorem zI_rai {n c s g : Nat} {S : zSt} (h : zI n S) (hs : s < 3) (hg : g ≤ sGen S s) : zI n (sRai c s g S) := ⟨zInv_rai h.1 hs hg, h.2⟩
theorem zI_tw {n c k : Nat} {t : List Nat} {S : zSt} (h : zI n S) (hn : n < 2 ^ 30) (hc : c < 4) (hq : sQu S c = k :: t) : zI n (sTail c (sWait k c S)) := by
  have hk : k < (sSh S).length := (h.1.2.2.2.2.2.1 c hc).2.1 k (by rw [hq]; simp)
  refine ⟨zInv_tw h.1 hn hc hq, fun j hj => ?_⟩
  have hj' : j < (sSh S).length := by
    have : j < ((sSh S).set k (zshT (sSc S 1) c (zg (sSh S) k zs0))).length := hj
    rwa [List.length_set] at this
  show (zg ((sSh S).set k (zshT (sSc S 1) c (zg (sSh S) k zs0))) j zs0).2.2.2.1 ≤ sGen S (zg ((sSh S).set k (zshT (sSc S 1) c (zg (sSh S) k zs0))) j zs0).2.1
  rw [zg_set hk hj']
  split
  · exact h.2 k hk
  · exact h.2 j hj'
theorem zI_take {n c k : Nat} {t : List Nat} {S : zSt} (h : zI n S) (hn : n < 2 ^ 30) (hc : c < 4) (hq : sQu S c = k :: t) : zI n (sTake c k S) := by
  have hk : k < (sSh S).length := (h.1.2.2.2.2.2.1 c hc).2.1 k (by rw [hq]; simp)
  have hs := (h.1.2.2.2.2.2.2.1.2.1 _ (zg_mem (x := zs0) hk)).2.1
  have hg := h.2 k hk
  have h1 : zI n (sForg c (zg (sSh S) k zs0).2.1 (zg (sSh S) k zs0).2.2.1 S) := zI_forg h
  have h2 : zI n (sRai c (zg (sSh S) k zs0).2.1 (zg (sSh S) k zs0).2.2.2.1 (sForg c (zg (sSh S) k zs0).2.1 (zg (sSh S) k zs0).2.2.1 S)) := zI_rai h1 hs hg
  exact zI_set (zI_tw (t := t) h2 hn hc hq) (by decide)
def sTakeN : Nat → Nat → zSt → zSt
  | 0, _, S => S
  | n + 1, c, S => match sQu S c with
    | [] => S
    | k :: _ => sTakeN n c (sTake c k S)
theorem sTake_q {c k : Nat} {t : List Nat} {S : zSt} (hq : sQu S c = k :: t) : sQu (sTake c k S) c = t := by
  show va_up (sQu S) c (sQu S c).tail c = t
  rw [va_up_self, hq]
  rfl
theorem sTakeN_q {n c : Nat} : ∀ {S : zSt}, (sQu S c).length = n → sQu (sTakeN n c S) c = [] := by
  induction n with
  | zero => intro S h; exact List.eq_nil_of_length_eq_zero h
  | succ n ih =>
    intro S h
    cases hq : sQu S c with
    | nil => rw [hq] at h; cases h
    | cons k t =>
      simp only [sTakeN, hq]
      exact ih (by rw [sTake_q hq]; rw [hq] at h; simpa using h)
theorem zI_takeN {m c : Nat} (hm : m < 2 ^ 30) (hc : c < 4) : ∀ (n : Nat) {S : zSt}, zI m S → zI m (sTakeN n c S) := by
  intro n
  induction n with
  | zero => intro S h; exact h
  | succ n ih =>
    intro S h
    cases hq : sQu S c with
    | nil => simp only [sTakeN, hq]; exact h
    | cons k t => simp only [sTakeN, hq]; exact ih (zI_take h hm hc hq)
theorem X_takeAll_loop {b : Bool} {d : Nat} {Q : zQ} {c m : Nat} (hm : m < 2 ^ 30) (hc : c < 4) (L : Nat) (hL : L ≤ 40) : ∀ (n i : Nat) (S : zSt) (σ : zV), n + i = L → (sQu S c).length = n → RX S σ → zI m S → (∀ σ', RX (sTakeN n c S) σ' → zXo σ σ' → Q (some (.int (nI L))) σ') → eX5_takeAllCalls b (d + 4) Q 12 [.ref 0, .int (nI c), .int (nI L), .int (nI i)] [] σ := by
  intro n
  induction n with
  | zero =>
    intro i S σ hi hq h hI hQ
    rw [bX5_takeAllCalls_12]
    simp (disch := omega) only [nI_add, pk_mul, pk_sub, nI_clamp, nI_ltE, nI_leE, nI_eqE, nI_m, nI_m', nI_lt0, vp_inE, Nat.not_lt_zero, zc3, zc4, zc5, zc16, zc20, zc40, true_implies, false_implies, not_true_eq_false, not_false_eq_true, true_and, and_true, eq_self, implies_true, z_toL, z_toN, List.cons_append, List.nil_append]
    exact ⟨fun _ => hQ σ h zXo_rf, fun q => absurd (by omega) q⟩
  | succ n ih =>
    intro i S σ hi hq h hI hQ
    rw [bX5_takeAllCalls_12]
    simp (disch := omega) only [nI_add, pk_mul, pk_sub, nI_clamp, nI_ltE, nI_leE, nI_eqE, nI_m, nI_m', nI_lt0, vp_inE, Nat.not_lt_zero, zc3, zc4, zc5, zc16, zc20, zc40, true_implies, false_implies, not_true_eq_false, not_false_eq_true, true_and, and_true, eq_self, implies_true, z_toL, z_toN, List.cons_append, List.nil_append]
    refine ⟨fun q => absurd q (by omega), fun _ => ?_⟩
    refine X_take h hI.1 hm hc (fun q => absurd hq (by rw [q]; simp)) (fun k t hkt σ' m1 o1 => ?_)
    simp only [z_toL, List.cons_append, List.nil_append]
    rw [bX5_takeAllCalls_22]
    simp only [nI_add]
    refine ih (i + 1) (sTake c k S) σ' (by omega) (by rw [sTake_q hkt]; rw [hkt] at hq; simpa using hq) m1 (zI_take hI hm hc hkt) (fun σ2 m2 o2 => hQ σ2 ?_ (zXo_tr o1 o2))
    simp only [sTakeN, hkt]
    exact m2
theorem X_takeAll {b : Bool} {d : Nat} {Q : zQ} {c m : Nat} {S : zSt} {σ : zV} (h : RX S σ) (hI : zI m S) (hm : m < 2 ^ 30) (hc : c < 4) (hQ : ∀ σ', RX (sTakeN (sQu S c).length c S) σ' → zXo σ σ' → Q (some (.int (nI (sQu S c).length))) σ') : zCall (zUn b) (d + 5) yX5_takeAllCalls [.ref 0, .int (nI c)] σ Q := by
  have h18 : σ 18 c = nI (sQu S c).length := (h.2.2.2.2.2.2.2.1 c hc).1
  have hl := zInv_q hI.1 c hc
  rw [nX5_takeAllCalls, bX5_takeAllCalls_0]
  simp (disch := omega) only [nI_add, pk_mul, pk_sub, nI_clamp, nI_ltE, nI_leE, nI_eqE, nI_m, nI_m', nI_lt0, vp_inE, Nat.not_lt_zero, zc3, zc4, zc5, zc16, zc20, zc40, true_implies, false_implies, not_true_eq_false, not_false_eq_true, true_and, and_true, eq_self, implies_true, z_toL, z_toN, List.cons_append, List.nil_append, h18]
  exact ⟨hc, X_takeAll_loop hm hc _ hl _ 0 S σ (by omega) rfl h hI hQ⟩
/-- a core that wakes or comes -/
def zcau (c : Nat) (S : zSt) : Nat := if sGen S (sSp S c) ≤ sFg S (c * 3 + sSp S c) then 0 else (sNo S c).length - (zkeep (sSp S c) (-nI 1) (sNo S c)).length
def sCau (c : Nat) (S : zSt) : zSt := if sGen S (sSp S c) ≤ sFg S (c * 3 + sSp S c) then S else sSet 9 (sSc S 9 + nI (zcau c S)) (sRai c (sSp S c) (sGen S (sSp S c)) (sForg c (sSp S c) (-nI 1) S))
theorem zI_cau {n c : Nat} {S : zSt} (h : zI n S) (hc : c < 4) : zI n (sCau c S) := by
  unfold sCau
  split
  · exact h
  · have h1 : zI n (sForg c (sSp S c) (-nI 1) S) := zI_forg h
    have h2 : zI n (sRai c (sSp S c) (sGen S (sSp S c)) (sForg c (sSp S c) (-nI 1) S)) := zI_rai h1 (h.1.2.2.2.1 c hc) (Nat.le_refl _)
    exact zI_set h2 (by decide)
theorem X_cau {b : Bool} {d : Nat} {Q : zQ} {c m : Nat} {S : zSt} {σ : zV} (h : RX S σ) (hI : zI m S) (hc : c < 4) (hQ : ∀ σ', RX (sCau c S) σ' → zXo σ σ' → Q (some (.int (nI (zcau c S)))) σ') : zCall (zUn b) (d + 4) yX5_catchUp [.ref 0, .int (nI c)] σ Q := by
  have h' := h
  obtain ⟨r1, r2, r3, r4, r5, r6, r7, r8, r9, r10⟩ := h'
  have hs := hI.1.2.2.2.1 c hc
  have k7 := (r5 c hc).1
  have k2 := r3 _ hs
  have k10 := r6 (c * 3 + sSp S c) (by omega)
  have hg := zInv_g hI.1 _ hs
  have hf := zInv_f hI.1 c _ hc hs
  rw [nX5_catchUp, bX5_catchUp_0]
  simp (disch := omega) only [nI_add, pk_mul, pk_sub, nI_clamp, nI_ltE, nI_leE, nI_eqE, nI_m, nI_m', nI_lt0, vp_inE, Nat.not_lt_zero, zc3, zc4, zc5, zc16, zc20, zc40, true_implies, false_implies, not_true_eq_false, not_false_eq_true, true_and, and_true, eq_self, implies_true, z_toL, z_toN, List.cons_append, List.nil_append, k7, k2, k10]
  refine ⟨hc, by omega, by omega, fun q => ?_, fun q => ?_⟩
  · have e1 : sCau c S = S := by unfold sCau; rw [if_pos q]
    have e2 : zcau c S = 0 := by unfold zcau; rw [if_pos q]
    have := hQ σ (by rw [e1]; exact h) zXo_rf
    rw [e2] at this
    exact this
  · refine X_forget r7 hI.1.2.2.2.2.1 hc hs (fun σ1 o1 m1 => ?_)
    have m1 := RX_forg h o1 m1
    have k2 : σ1 2 (sSp S c) = nI (sGen S (sSp S c)) := m1.2.2.1 _ hs
    simp only [z_toL, List.cons_append, List.nil_append]
    rw [bX5_catchUp_31]
    simp (disch := omega) only [nI_add, pk_mul, pk_sub, nI_clamp, nI_ltE, nI_leE, nI_eqE, nI_m, nI_m', nI_lt0, vp_inE, Nat.not_lt_zero, zc3, zc4, zc5, zc16, zc20, zc40, true_implies, false_implies, not_true_eq_false, not_false_eq_true, true_and, and_true, eq_self, implies_true, z_toL, z_toN, List.cons_append, List.nil_append, k2]
    have hf' := zInv_f hI.1
    refine ⟨by omega, X_raise m1 hc hs (by omega) hf' (fun σ2 m2 o2 => ?_)⟩
    simp only [z_toN, List.nil_append]
    have k14 : σ2 0 14 = sSc S 9 := m2.2.1.2.2.2.2.2.2.2.2
    rw [bX5_catchUp_50, k14]
    have e1 : sCau c S = sSet 9 (sSc S 9 + nI (zcau c S)) (sRai c (sSp S c) (sGen S (sSp S c)) (sForg c (sSp S c) (-nI 1) S)) := by unfold sCau; rw [if_neg q]
    have e2 : zcau c S = (sNo S c).length - (zkeep (sSp S c) (-nI 1) (sNo S c)).length := by unfold zcau; rw [if_neg q]
    have w := RX_set m2 9 (by omega) (by omega) (sSc S 9 + nI (zcau c S))
    rw [← e1] at w
    rw [← e2]
    exact hQ _ w (zXo_tr (zXo_of o1 rfl) (zXo_tr (zXo_of o2 rfl) (zXo_put (by omega))))
/-- who is called by a shoot of core c in space s -/
def zcal (S : zSt) (c s d : Nat) : Bool := decide (d < sNc S) && decide (d ≠ c) && sAw S d && decide (sSp S d = s)
def sBeg (c s : Nat) (p : Int32) (S : zSt) : zSt := zMk (sNc S) (sSc S) (va_up (sGen S) s (sGen S s + 1)) (sHi S) (sSp S) (sAw S) (va_up (sFg S) (c * 3 + s) (sGen S s + 1)) (va_up (sNo S) c (zkeep s (if sFg S (c * 3 + s) < sGen S s then -nI 1 else p) (sNo S c))) (fun d => if zcal S c s d = true then sQu S d ++ [(sSh S).length] else sQu S d)
  (sSh S ++ [(c, s, p, sGen S s + 1, sSc S 1, if zmask (zcal S c s) = 0 then sSc S 1 else -nI 1, zcal S c s)])
