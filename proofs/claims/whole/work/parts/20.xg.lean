/-! the class: a shoot begun -/
theorem zIQ_len2 {nc : Nat} {qu : Nat → List Nat} {sh : List zSh} (h : zIQ nc qu sh) : ∀ c, c < 4 → (qu c).length ≤ sh.length := by
  intro c hc
  obtain ⟨h1, h2, -⟩ := h c hc
  have key : ∀ (l : List Nat) (lo m : Nat), l.Pairwise (· < ·) → (∀ x ∈ l, lo ≤ x ∧ x < m) → l.length ≤ m - lo := by
    intro l
    induction l with
    | nil => intro lo m _ _; exact Nat.zero_le _
    | cons a t ih =>
      intro lo m hp hx
      rw [List.pairwise_cons] at hp
      have h3 := ih (a + 1) m hp.2 (fun x hx2 => ⟨hp.1 x hx2, (hx x (by simp [hx2])).2⟩)
      have h4 := hx a (by simp)
      rw [List.length_cons]
      omega
  exact key _ 0 _ h1 (fun x hx => ⟨Nat.zero_le _, h2 x hx⟩)
def RY (S : zSt) (σ : zV) : Prop := XC (sNc S) σ ∧ XT (sSc S) σ ∧ XG (sGen S) σ ∧ XH (sHi S) σ ∧ XK (sSp S) (sAw S) σ ∧ XF (sFg S) σ ∧ XN (sNo S) σ ∧ XQ (sQu S) σ ∧ XS (sSh S) σ
theorem RY_of {S : zSt} {σ : zV} (h : RX S σ) : RY S σ := by
  obtain ⟨r1, r2, r3, r4, r5, r6, r7, r8, r9, r10⟩ := h
  exact ⟨r1, r2, r3, r4, r5, r6, r7, r8, r9⟩
theorem RX_of {S : zSt} {σ : zV} (h : RY S σ) (g : XU (sSh S) σ) : RX S σ := by
  obtain ⟨r1, r2, r3, r4, r5, r6, r7, r8, r9⟩ := h
  exact ⟨r1, r2, r3, r4, r5, r6, r7, r8, r9, g⟩
def sGup (s : Nat) (S : zSt) : zSt := zMk (sNc S) (sSc S) (va_up (sGen S) s (sGen S s + 1)) (sHi S) (sSp S) (sAw S) (sFg S) (sNo S) (sQu S) (sSh S)
theorem RX_gup {S : zSt} {σ : zV} {s : Nat} (h : RX S σ) : RX (sGup s S) (zput σ 2 s (nI (sGen S s + 1))) := by
  obtain ⟨r1, r2, r3, r4, r5, r6, r7, r8, r9, r10⟩ := h
  have o : zoff [2] σ (zput σ 2 s (nI (sGen S s + 1))) := zoff_put (by simp)
  refine ⟨XC_c (o 0 (by simp)) r1, XT_c (o 0 (by simp)) r2, fun s' hs' => ?_, XH_c (o 3 (by simp)) (o 4 (by simp)) (o 5 (by simp)) r4, XK_c (o 7 (by simp)) (o 8 (by simp)) r5, XF_c (o 10 (by simp)) r6, XN_c (o 12 (by simp)) (o 13 (by simp)) (o 14 (by simp)) (o 15 (by simp)) (o 16 (by simp)) r7, XQ_c (o 18 (by simp)) (o 19 (by simp)) r8, XS_c (o 20 (by simp)) (o 21 (by simp)) (o 22 (by simp)) (o 23 (by simp)) (o 24 (by simp)) (o 25 (by simp)) (o 26 (by simp)) (o 27 (by simp)) r9, XU_c (o 9 (by simp)) r10⟩
  show zput σ 2 s _ 2 s' = nI (va_up (sGen S) s (sGen S s + 1) s')
  rw [zput_in]
  unfold va_up
  split
  · rfl
  · exact r3 s' hs'
theorem X_append {b : Bool} {d : Nat} {Q : zQ} {S : zSt} {σ : zV} {c k : Nat} (h : RY S σ) (hc : c < 4) (hz : ∀ c, c < 4 → (sQu S c).length ≤ 40) (hl : (sQu S c).length < 40)
    (hQ : ∀ σ', RY (zMk (sNc S) (sSc S) (sGen S) (sHi S) (sSp S) (sAw S) (sFg S) (sNo S) (va_up (sQu S) c (sQu S c ++ [k])) (sSh S)) σ' → zoff [18, 19] σ σ' → Q none σ') : zCall (zUn b) (d + 1) yX2_append [.ref 17, .int (nI c), .int (nI k)] σ Q := by
  obtain ⟨r1, r2, r3, r4, r5, r6, r7, r8, r9⟩ := h
  obtain ⟨g1, g2⟩ := r8 c hc
  rw [sX2_append]
  simp (disch := omega) only [nI_add, pk_mul, pk_sub, nI_clamp, nI_ltE, nI_leE, nI_eqE, nI_m, nI_m', nI_lt0, vp_inE, Nat.not_lt_zero, zc3, zc4, zc5, zc16, zc20, zc40, true_implies, false_implies, not_true_eq_false, not_false_eq_true, true_and, and_true, eq_self, implies_true, z_toL, z_toN, List.cons_append, List.nil_append, zput_ne, zput_in, g1]
  refine ⟨hc, fun q => absurd q (by omega), fun _ => ⟨hc, by omega, hc, hc, ?_⟩⟩
  have o : zoff [18, 19] σ (zput (zput σ 19 (c * 40 + (sQu S c).length) (nI k)) 18 c (nI ((sQu S c).length + 1))) := zoff_tr (zoff_put (by simp)) (zoff_put (by simp))
  refine hQ _ ⟨XC_c (o 0 (by simp)) r1, XT_c (o 0 (by simp)) r2, XG_c (o 2 (by simp)) r3, XH_c (o 3 (by simp)) (o 4 (by simp)) (o 5 (by simp)) r4, XK_c (o 7 (by simp)) (o 8 (by simp)) r5, XF_c (o 10 (by simp)) r6, XN_c (o 12 (by simp)) (o 13 (by simp)) (o 14 (by simp)) (o 15 (by simp)) (o 16 (by simp)) r7, fun c' hc' => ?_, XS_c (o 20 (by simp)) (o 21 (by simp)) (o 22 (by simp)) (o 23 (by simp)) (o 24 (by simp)) (o 25 (by simp)) (o 26 (by simp)) (o 27 (by simp)) r9⟩ o
  show zput (zput σ 19 _ _) 18 c _ 18 c' = nI (va_up (sQu S) c (sQu S c ++ [k]) c').length ∧ ∀ k', k' < (va_up (sQu S) c (sQu S c ++ [k]) c').length → zput (zput σ 19 _ _) 18 c _ 19 (c' * 40 + k') = nI (zg (va_up (sQu S) c (sQu S c ++ [k]) c') k' 0)
  rw [zput_in, zput_ne (by decide), zput_ne (by decide)]
  by_cases e : c' = c
  · subst e
    rw [va_up_self, if_pos rfl, List.length_append]
    refine ⟨rfl, fun k' hk' => ?_⟩
    simp only [List.length_singleton] at hk'
    rw [zput_in]
    by_cases e2 : k' < (sQu S c').length
    · rw [if_neg (by omega), zg_apl e2]
      exact g2 k' e2
    · have e3 : k' = (sQu S c').length := by omega
      subst e3
      rw [if_pos rfl, zg_last]
  · rw [va_up_ne _ _ e, if_neg e]
    refine ⟨(r8 c' hc').1, fun k' hk' => ?_⟩
    have := hz c' hc'
    rw [zput_in, if_neg (by omega)]
    exact (r8 c' hc').2 k' hk'
/-- while the others are called: those below j are -/
def zquj (S : zSt) (c s j : Nat) : Nat → List Nat := fun d => if (decide (d < j) && zcal S c s d) = true then sQu S d ++ [(sSh S).length] else sQu S d
def zshj (S : zSt) (c s : Nat) (p : Int32) (j : Nat) : List zSh := sSh S ++ [(c, s, p, sGen S s + 1, sSc S 1, -nI 1, fun d => decide (d < j) && zcal S c s d)]
def sBj (c s : Nat) (p : Int32) (j : Nat) (S : zSt) : zSt := zMk (sNc S) (sSc S) (va_up (sGen S) s (sGen S s + 1)) (sHi S) (sSp S) (sAw S) (va_up (sFg S) (c * 3 + s) (sGen S s + 1)) (va_up (sNo S) c (zkeep s (if sFg S (c * 3 + s) < sGen S s then -nI 1 else p) (sNo S c))) (zquj S c s j) (zshj S c s p j)
theorem zquj_no {S : zSt} {c s j : Nat} (h : zcal S c s j = false) : zquj S c s (j + 1) = zquj S c s j := by
  funext d
  unfold zquj
  by_cases e : d = j
  · subst e; rw [h]; simp
  · have : decide (d < j + 1) = decide (d < j) := decide_eq_decide.mpr ⟨fun q => by omega, fun q => by omega⟩
    rw [this]
theorem zquj_yes {S : zSt} {c s j : Nat} (h : zcal S c s j = true) : zquj S c s (j + 1) = va_up (zquj S c s j) j (zquj S c s j j ++ [(sSh S).length]) := by
  funext d
  unfold va_up
  by_cases e : d = j
  · subst e; rw [if_pos rfl]; unfold zquj; rw [h]; simp
  · rw [if_neg e]
    unfold zquj
    have : decide (d < j + 1) = decide (d < j) := decide_eq_decide.mpr ⟨fun q => by omega, fun q => by omega⟩
    rw [this]
theorem zwj_no {S : zSt} {c s j : Nat} (h : zcal S c s j = false) : (fun d => decide (d < j + 1) && zcal S c s d) = fun d => decide (d < j) && zcal S c s d := by
  funext d
  by_cases e : d = j
  · subst e; rw [h]; simp
  · have : decide (d < j + 1) = decide (d < j) := decide_eq_decide.mpr ⟨fun q => by omega, fun q => by omega⟩
    rw [this]
theorem zwj_yes {S : zSt} {c s j : Nat} (h : zcal S c s j = true) : (fun d => decide (d < j + 1) && zcal S c s d) = va_up (fun d => decide (d < j) && zcal S c s d) j true := by
  funext d
  unfold va_up
  by_cases e : d = j
  · subst e; rw [h]; simp
  · have : decide (d < j + 1) = decide (d < j) := decide_eq_decide.mpr ⟨fun q => by omega, fun q => by omega⟩
    rw [this, if_neg e]
theorem zcal_ge {S : zSt} {c s d : Nat} (h : sNc S ≤ d) : zcal S c s d = false := by
  unfold zcal
  rw [decide_eq_false (by omega : ¬ d < sNc S)]
  simp
theorem XS_bit {sh : List zSh} {r : zSh} {w : Nat → Bool} {σ : zV} {x : Int32} (h : XS (sh ++ [r]) σ) (hx : x = nI (zmask w)) : XS (sh ++ [(r.1, r.2.1, r.2.2.1, r.2.2.2.1, r.2.2.2.2.1, r.2.2.2.2.2.1, w)]) (zput σ 27 sh.length x) := by
  obtain ⟨h1, h2⟩ := h
  rw [List.length_append] at h1 h2
  refine ⟨by rw [zput_ne (by decide), List.length_append]; exact h1, fun k hk => ?_⟩
  rw [List.length_append] at hk
  have g := h2 k hk
  simp only [List.length_singleton] at hk
  unfold XSr at *
  rw [zput_ne (by decide), zput_ne (by decide), zput_ne (by decide), zput_ne (by decide), zput_ne (by decide), zput_ne (by decide), zput_in]
  by_cases e : k < sh.length
  · rw [zg_apl e] at g ⊢
    rw [if_neg (by omega)]
    exact g
  · have e2 : k = sh.length := by omega
    subst e2
    rw [zg_last] at g ⊢
    rw [if_pos rfl]
    obtain ⟨g1, g2, g3, g4, g5, g6, g7⟩ := g
    exact ⟨g1, g2, g3, g4, g5, g6, hx⟩
theorem XS_new {sh : List zSh} {r : zSh} {σ : zV} (h : XS sh σ) (hl : sh.length < 40) {x6 x7 : Int32} (h6 : x6 = r.2.2.2.2.2.1) (h7 : x7 = nI (zmask r.2.2.2.2.2.2)) :
    XS (sh ++ [r]) (zput (zput (zput (zput (zput (zput (zput (zput σ 21 sh.length (nI r.1)) 22 sh.length (nI r.2.1)) 23 sh.length r.2.2.1) 24 sh.length (nI r.2.2.2.1)) 25 sh.length r.2.2.2.2.1) 26 sh.length x6) 27 sh.length x7) 20 0 (nI (sh.length + 1))) := by
  obtain ⟨h1, h2⟩ := h
  refine ⟨by rw [zput_ii, List.length_append]; rfl, fun k hk => ?_⟩
  rw [List.length_append] at hk
  simp only [List.length_singleton] at hk
  unfold XSr
  simp (disch := omega) only [zput_ne, zput_in]
  by_cases e : k < sh.length
  · rw [zg_apl e]
    simp only [show ¬ k = sh.length from by omega, if_false]
    exact h2 k e
  · have e2 : k = sh.length := by omega
    subst e2
    rw [zg_last]
    simp only [if_true]
    exact ⟨trivial, trivial, trivial, trivial, trivial, h6, h7⟩
theorem XU_app {sh : List zSh} {r : zSh} {σ : zV} {c : Nat} (h : XU sh σ) (hl : sh.length < 40) (hr : r.1 = c) (hf : zund sh c = -nI 1) {x : Int32} (hx : x = if r.2.2.2.2.2.1 = -nI 1 then nI sh.length else -nI 1) : XU (sh ++ [r]) (zput σ 9 c x) := by
  have hno : ∀ j, j < sh.length → ((decide ((zg sh j zs0).1 = c) && decide ((zg sh j zs0).2.2.2.2.2.1 = -nI 1)) = false) := by
    unfold zund at hf
    rcases zfst_of (p := fun k => decide ((zg sh k zs0).1 = c) && decide ((zg sh k zs0).2.2.2.2.2.1 = -nI 1)) (n := sh.length) with ⟨q1, q2⟩ | ⟨k, q1, q2, -⟩
    · exact q2
    · rw [q1] at hf
      exact absurd hf (by show ¬ nI k = -nI 1; rw [nI_m (by omega) (by omega) (by omega)]; exact id)
  intro c' hc'
  rw [zput_in]
  by_cases e : c' = c
  · subst e
    rw [if_pos rfl, hx]
    unfold zund
    rw [List.length_append]
    by_cases e2 : r.2.2.2.2.2.1 = -nI 1
    · rw [if_pos e2, zfst_some (k := sh.length)]
      · rfl
      · intro j hj
        rw [zg_apl hj]
        exact hno j hj
      · simp
      · rw [zg_last, hr, e2]
        simp
    · rw [if_neg e2, zfst_none]
      · rfl
      · intro j hj
        simp only [List.length_singleton] at hj
        by_cases e3 : j < sh.length
        · rw [zg_apl e3]
          exact hno j e3
        · have e4 : j = sh.length := by omega
          subst e4
          rw [zg_last, decide_eq_false e2]
          simp
  · rw [if_neg e, h c' hc']
    unfold zund
    rw [List.length_append]
    have hk : ∀ j, j < sh.length → (decide ((zg (sh ++ [r]) j zs0).1 = c') && decide ((zg (sh ++ [r]) j zs0).2.2.2.2.2.1 = -nI 1)) = (decide ((zg sh j zs0).1 = c') && decide ((zg sh j zs0).2.2.2.2.2.1 = -nI 1)) := fun j hj => by rw [zg_apl hj]
    rcases zfst_of (p := fun k => decide ((zg sh k zs0).1 = c') && decide ((zg sh k zs0).2.2.2.2.2.1 = -nI 1)) (n := sh.length) with ⟨q1, q2⟩ | ⟨k, q1, q2, q3, q4⟩
    · rw [q1, zfst_none]
      intro j hj
      simp only [List.length_singleton] at hj
      by_cases e3 : j < sh.length
      · rw [hk j e3]; exact q2 j e3
      · have e4 : j = sh.length := by omega
        subst e4
        rw [zg_last, hr, decide_eq_false (Ne.symm e)]
        simp
    · rw [q1, zfst_some (k := k)]
      · intro j hj
        rw [hk j (by omega)]
        exact q4 j hj
      · simp; omega
      · rw [hk k q2]; exact q3
theorem RY_mk {nc : Nat} {sc : Nat → Int32} {gen : Nat → Nat} {hi : Nat → List (Nat × Int32)} {sp : Nat → Nat} {aw : Nat → Bool} {fg : Nat → Nat} {no : Nat → List zNote} {qu : Nat → List Nat} {sh : List zSh} {σ : zV} (r1 : XC nc σ) (r2 : XT sc σ) (r3 : XG gen σ) (r4 : XH hi σ) (r5 : XK sp aw σ) (r6 : XF fg σ) (r7 : XN no σ) (r8 : XQ qu σ) (r9 : XS sh σ) : RY (zMk nc sc gen hi sp aw fg no qu sh) σ := ⟨r1, r2, r3, r4, r5, r6, r7, r8, r9⟩
theorem RX_mk {nc : Nat} {sc : Nat → Int32} {gen : Nat → Nat} {hi : Nat → List (Nat × Int32)} {sp : Nat → Nat} {aw : Nat → Bool} {fg : Nat → Nat} {no : Nat → List zNote} {qu : Nat → List Nat} {sh : List zSh} {σ : zV} (r1 : XC nc σ) (r2 : XT sc σ) (r3 : XG gen σ) (r4 : XH hi σ) (r5 : XK sp aw σ) (r6 : XF fg σ) (r7 : XN no σ) (r8 : XQ qu σ) (r9 : XS sh σ) (r10 : XU sh σ) : RX (zMk nc sc gen hi sp aw fg no qu sh) σ := ⟨r1, r2, r3, r4, r5, r6, r7, r8, r9, r10⟩
theorem RY_un {nc : Nat} {sc : Nat → Int32} {gen : Nat → Nat} {hi : Nat → List (Nat × Int32)} {sp : Nat → Nat} {aw : Nat → Bool} {fg : Nat → Nat} {no : Nat → List zNote} {qu : Nat → List Nat} {sh : List zSh} {σ : zV} (h : RY (zMk nc sc gen hi sp aw fg no qu sh) σ) : XC nc σ ∧ XT sc σ ∧ XG gen σ ∧ XH hi σ ∧ XK sp aw σ ∧ XF fg σ ∧ XN no σ ∧ XQ qu σ ∧ XS sh σ := h
/-- the last shoot's 'done' -/
theorem XS_done {sh : List zSh} {r : zSh} {σ : zV} {x : Int32} (h : XS (sh ++ [r]) σ) : XS (sh ++ [(r.1, r.2.1, r.2.2.1, r.2.2.2.1, r.2.2.2.2.1, x, r.2.2.2.2.2.2)]) (zput σ 26 sh.length x) := by
  obtain ⟨h1, h2⟩ := h
  rw [List.length_append] at h1 h2
  refine ⟨by rw [zput_ne (by decide), List.length_append]; exact h1, fun k hk => ?_⟩
  rw [List.length_append] at hk
  have g := h2 k hk
  simp only [List.length_singleton] at hk
  unfold XSr at *
  rw [zput_ne (by decide), zput_ne (by decide), zput_ne (by decide), zput_ne (by decide), zput_ne (by decide), zput_in, zput_ne (by decide)]
  by_cases e : k < sh.length
  · rw [zg_apl e] at g ⊢
    rw [if_neg (by omega)]
    exact g
  · have e2 : k = sh.length := by omega
    subst e2
    rw [zg_last] at g ⊢
    rw [if_pos rfl]
    obtain ⟨g1, g2, g3, g4, g5, g6, g7⟩ := g
    exact ⟨g1, g2, g3, g4, g5, rfl, g7⟩
theorem X_begin_end {b : Bool} {d : Nat} {Q : zQ} {nc : Nat} {sc : Nat → Int32} {gen : Nat → Nat} {hi : Nat → List (Nat × Int32)} {sp : Nat → Nat} {aw : Nat → Bool} {fg : Nat → Nat} {no : Nat → List zNote} {qu : Nat → List Nat} {sh : List zSh} {w : Nat → Bool} {σ : zV} {c s g tm : Nat} {p : Int32} (hnc : nc ≤ 4) (hc : c < nc) (hl : sh.length < 40) (hf : zund sh c = -nI 1) (ht : tm < 2 ^ 31) (hte : sc 1 = nI tm) (hU : XU sh σ)
    (h : RY (zMk nc sc gen hi sp aw fg no qu (sh ++ [(c, s, p, g, sc 1, -nI 1, w)])) σ)
    (hQ : ∀ σ', RX (zMk nc sc gen hi sp aw fg no qu (sh ++ [(c, s, p, g, sc 1, if zmask w = 0 then sc 1 else -nI 1, w)])) σ' → zXo σ σ' → Q (some (.int (nI sh.length))) σ') : eX5_beginShoot b (d + 3) Q 83 [.ref 0, .int (nI c), .int (nI s), .int p, .int (nI sh.length), .int (nI nc)] [] σ := by
  obtain ⟨r1, r2, r3, r4, r5, r6, r7, r8, r9⟩ := RY_un h
  have k5 : σ 0 5 = nI nc := r1
  have k6 : σ 0 6 = sc 1 := r2.1
  have gg := r9.2 sh.length (by simp)
  rw [zg_last] at gg
  have g7 : σ 27 sh.length = nI (zmask w) := gg.2.2.2.2.2.2
  have hlt := zmask_lt (w := w)
  rw [bX5_beginShoot_83]
  simp (disch := omega) only [nI_add, pk_mul, pk_sub, nI_clamp, nI_ltE, nI_leE, nI_eqE, nI_m, nI_m', nI_lt0, vp_inE, Nat.not_lt_zero, zc3, zc4, zc5, zc16, zc20, zc40, true_implies, false_implies, not_true_eq_false, not_false_eq_true, true_and, and_true, eq_self, implies_true, z_toL, z_toN, List.cons_append, List.nil_append, k5, k6, g7, Nat.le_refl]
  refine ⟨by omega, fun q => ⟨by omega, ?_⟩, fun q => ⟨by omega, ?_⟩⟩
  · rw [if_neg q] at hQ
    refine hQ _ ?_ (zXo_put (by omega))
    have o : zoff [9] σ (zput σ 9 c (nI sh.length)) := zoff_put (by simp)
    refine RX_mk (XC_c (o 0 (by simp)) r1) (XT_c (o 0 (by simp)) r2) (XG_c (o 2 (by simp)) r3) (XH_c (o 3 (by simp)) (o 4 (by simp)) (o 5 (by simp)) r4) (XK_c (o 7 (by simp)) (o 8 (by simp)) r5) (XF_c (o 10 (by simp)) r6) (XN_c (o 12 (by simp)) (o 13 (by simp)) (o 14 (by simp)) (o 15 (by simp)) (o 16 (by simp)) r7) (XQ_c (o 18 (by simp)) (o 19 (by simp)) r8) (XS_c (o 20 (by simp)) (o 21 (by simp)) (o 22 (by simp)) (o 23 (by simp)) (o 24 (by simp)) (o 25 (by simp)) (o 26 (by simp)) (o 27 (by simp)) r9) ?_
    exact XU_app (r := (c, s, p, g, sc 1, -nI 1, w)) hU hl rfl hf (by rw [if_pos rfl])
  · rw [if_pos q] at hQ
    refine hQ _ ?_ (zXo_put (by omega))
    have o : zoff [26] σ (zput σ 26 sh.length (sc 1)) := zoff_put (by simp)
    have r9' := XS_done (x := sc 1) r9
    refine RX_mk (XC_c (o 0 (by simp)) r1) (XT_c (o 0 (by simp)) r2) (XG_c (o 2 (by simp)) r3) (XH_c (o 3 (by simp)) (o 4 (by simp)) (o 5 (by simp)) r4) (XK_c (o 7 (by simp)) (o 8 (by simp)) r5) (XF_c (o 10 (by simp)) r6) (XN_c (o 12 (by simp)) (o 13 (by simp)) (o 14 (by simp)) (o 15 (by simp)) (o 16 (by simp)) r7) (XQ_c (o 18 (by simp)) (o 19 (by simp)) r8) r9' ?_
    have htn : ¬ sc 1 = -nI 1 := by rw [hte, nI_m (by omega) (by omega) (by omega)]; exact id
    have hx := XU_app (r := (c, s, p, g, sc 1, sc 1, w)) (x := -nI 1) hU hl rfl hf (by rw [if_neg htn])
    intro c' hc'
    have h2 := hx c' hc'
    rw [o 9 (by simp), ← h2, zput_in]
    by_cases ec : c' = c
    · rw [if_pos ec, ec, hU c (by omega), hf]
    · rw [if_neg ec]
