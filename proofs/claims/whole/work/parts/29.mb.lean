/-! the model: a shoot begun, the rest -/
theorem MY_fg {nc : Nat} {sc : Nat → Int32} {gen : Nat → Nat} {hi : Nat → List (Nat × Int32)} {sp : Nat → Nat} {aw : Nat → Bool} {fg fg' : Nat → Nat} {no : Nat → List zNote} {qu : Nat → List Nat} {sh : List zSh} {c s g : Nat} {p t : Int32} {σ σ' : zV} (h : MY nc sc gen hi sp aw fg no qu sh c s g p t σ) (o : zoff [40] σ σ') (hF : MF fg' σ') : MY nc sc gen hi sp aw fg' no qu sh c s g p t σ' := by
  obtain ⟨r1, r2, r3, r4, r5, r6, r7, r8, r9, s1, s2, s3, s4, s5, s6, s7⟩ := h
  refine ⟨MC_c (o 28 (by simp)) r1, MT_c (o 28 (by simp)) r2, MG_c (o 30 (by simp)) r3, MH_c (o 31 (by simp)) (o 33 (by simp)) (o 32 (by simp)) (o 29 (by simp)) r4, MK_c (o 34 (by simp)) (o 35 (by simp)) r5, hF, MN_c (o 36 (by simp)) (o 37 (by simp)) r7, MQu_c (o 38 (by simp)) (o 39 (by simp)) r8, fun k hk => MSr_c (o 41 (by simp)) (o 42 (by simp)) (o 43 (by simp)) (o 44 (by simp)) (o 45 (by simp)) (o 46 (by simp)) (o 47 (by simp)) (r9 k hk), ?_, ?_, ?_, ?_, ?_, ?_, ?_⟩
  · rw [o 28 (by simp)]; exact s1
  · rw [o 41 (by simp)]; exact s2
  · rw [o 42 (by simp)]; exact s3
  · rw [o 43 (by simp)]; exact s4
  · rw [o 44 (by simp)]; exact s5
  · rw [o 45 (by simp)]; exact s6
  · rw [o 46 (by simp)]; exact s7
theorem MY_qw {nc : Nat} {sc : Nat → Int32} {gen : Nat → Nat} {hi : Nat → List (Nat × Int32)} {sp : Nat → Nat} {aw : Nat → Bool} {fg : Nat → Nat} {no : Nat → List zNote} {qu qu' : Nat → List Nat} {sh : List zSh} {c s g j : Nat} {p t : Int32} {σ σ' : zV} (h : MY nc sc gen hi sp aw fg no qu sh c s g p t σ) (o : zoff [38, 39, 47] σ σ') (hQ : MQu qu' σ') (hj : j < 4) (h47 : ∀ i, i ≠ sh.length * 4 + j → σ' 47 i = σ 47 i) : MY nc sc gen hi sp aw fg no qu' sh c s g p t σ' := by
  obtain ⟨r1, r2, r3, r4, r5, r6, r7, r8, r9, s1, s2, s3, s4, s5, s6, s7⟩ := h
  refine ⟨MC_c (o 28 (by simp)) r1, MT_c (o 28 (by simp)) r2, MG_c (o 30 (by simp)) r3, MH_c (o 31 (by simp)) (o 33 (by simp)) (o 32 (by simp)) (o 29 (by simp)) r4, MK_c (o 34 (by simp)) (o 35 (by simp)) r5, MF_c (o 40 (by simp)) r6, MN_c (o 36 (by simp)) (o 37 (by simp)) r7, hQ, fun k hk => ?_, ?_, ?_, ?_, ?_, ?_, ?_, ?_⟩
  · have y := r9 k hk
    unfold MSr at *
    rw [o 41 (by simp), o 42 (by simp), o 43 (by simp), o 44 (by simp), o 45 (by simp), o 46 (by simp)]
    obtain ⟨y1, y2, y3, y4, y5, y6, y7⟩ := y
    exact ⟨y1, y2, y3, y4, y5, y6, fun c' hc' => by rw [h47 _ (by omega)]; exact y7 c' hc'⟩
  · rw [o 28 (by simp)]; exact s1
  · rw [o 41 (by simp)]; exact s2
  · rw [o 42 (by simp)]; exact s3
  · rw [o 43 (by simp)]; exact s4
  · rw [o 44 (by simp)]; exact s5
  · rw [o 45 (by simp)]; exact s6
  · rw [o 46 (by simp)]; exact s7
theorem RM_mk {nc : Nat} {sc : Nat → Int32} {gen : Nat → Nat} {hi : Nat → List (Nat × Int32)} {sp : Nat → Nat} {aw : Nat → Bool} {fg : Nat → Nat} {no : Nat → List zNote} {qu : Nat → List Nat} {sh : List zSh} {σ : zV} (r1 : MC nc σ) (r2 : MT sc σ) (r3 : MG gen σ) (r4 : MH hi σ) (r5 : MK sp aw σ) (r6 : MF fg σ) (r7 : MN no σ) (r8 : MQu qu σ) (r9 : MS sh σ) : RM (zMk nc sc gen hi sp aw fg no qu sh) σ := ⟨r1, r2, r3, r4, r5, r6, r7, r8, r9⟩
theorem MY_end {nc : Nat} {sc : Nat → Int32} {gen : Nat → Nat} {hi : Nat → List (Nat × Int32)} {sp : Nat → Nat} {aw : Nat → Bool} {fg : Nat → Nat} {no : Nat → List zNote} {qu : Nat → List Nat} {sh : List zSh} {c s g : Nat} {p t x : Int32} {w : Nat → Bool} {σ : zV} (h : MY nc sc gen hi sp aw fg no qu sh c s g p t σ) (hw : ∀ d, d < 4 → σ 47 (sh.length * 4 + d) = zb (w d)) {σ' : zV} (o : zoff [46] σ σ') (h46 : ∀ i, σ' 46 i = if i = sh.length then x else σ 46 i) : RM (zMk nc sc gen hi sp aw fg no qu (sh ++ [(c, s, p, g, t, x, w)])) σ' := by
  obtain ⟨r1, r2, r3, r4, r5, r6, r7, r8, r9, s1, s2, s3, s4, s5, s6, s7⟩ := h
  refine RM_mk (MC_c (o 28 (by simp)) r1) (MT_c (o 28 (by simp)) r2) (MG_c (o 30 (by simp)) r3) (MH_c (o 31 (by simp)) (o 33 (by simp)) (o 32 (by simp)) (o 29 (by simp)) r4) (MK_c (o 34 (by simp)) (o 35 (by simp)) r5) (MF_c (o 40 (by simp)) r6) (MN_c (o 36 (by simp)) (o 37 (by simp)) r7) (MQu_c (o 38 (by simp)) (o 39 (by simp)) r8) ⟨?_, fun k hk => ?_⟩
  · rw [o 28 (by simp), List.length_append]; exact s1
  · rw [List.length_append] at hk
    simp only [List.length_singleton] at hk
    unfold MSr
    rw [o 41 (by simp), o 42 (by simp), o 43 (by simp), o 44 (by simp), o 45 (by simp), o 47 (by simp), h46]
    by_cases e : k < sh.length
    · rw [zg_apl e, if_neg (by omega)]
      exact r9 k e
    · have e2 : k = sh.length := by omega
      subst e2
      rw [zg_last, if_pos rfl]
      exact ⟨s2, s3, s4, s5, s6, rfl, hw⟩
set_option maxRecDepth 100000 in
theorem M_call_loop {d : Nat} {Q : zQ} {nc : Nat} {sc : Nat → Int32} {gen : Nat → Nat} {hi : Nat → List (Nat × Int32)} {sp : Nat → Nat} {aw : Nat → Bool} {fg : Nat → Nat} {no : Nat → List zNote} {qu : Nat → List Nat} {sh : List zSh} {cal : Nat → Bool} {c s g e : Nat} {p v6 v7 : Int32} (hnc : nc ≤ 4) (hc : c < nc) (hs : s < 3) (hl : sh.length < 40) (hsp : ∀ c, c < 4 → sp c < 3) (hq : ∀ c, c < 4 → (qu c).length ≤ sh.length)
    (hcal : ∀ j, cal j = (decide (j < nc) && (decide (j ≠ c) && aw j && decide (sp j = s))))
    {σ0 : zV} (hQ : ∀ σ', RM (zMk nc sc gen hi sp aw fg no (fun d => if cal d = true then qu d ++ [sh.length] else qu d) (sh ++ [(c, s, p, g, sc 1, if zmask cal = 0 then sc 1 else -nI 1, cal)])) σ' → zMo σ0 σ' → Q (some (.int (nI sh.length))) σ') :
    ∀ (n j : Nat) (v9 : Value) (σ : zV), v9.category = 1 → n + j = 4 → MY nc sc gen hi sp aw fg no (zqj cal qu sh.length j) sh c s g p (sc 1) σ → (∀ d, d < j → σ 47 (sh.length * 4 + d) = zb (cal d)) → zMo σ0 σ → eX6_begins (d + 2) Q 210 [.ref 28, .int (nI c), .int (nI s), .int p, .int (nI e), .int (nI sh.length), .int v6, .int v7, .int (nI j), v9] [] σ := by
  intro n
  induction n with
  | zero =>
    intro j v9 σ hv hj h hw ho
    have hj : j = 4 := by omega
    subst hj
    have h' := h
    obtain ⟨r1, r2, r3, r4, r5, r6, r7, r8, r9, s1, s2, s3, s4, s5, s6, s7⟩ := h'
    have e2 : ∀ d, d < 4 → zqj cal qu sh.length 4 d = (if cal d = true then qu d ++ [sh.length] else qu d) := by
      intro d hd
      unfold zqj
      rw [decide_eq_true hd]
      simp
    have h2 : MY nc sc gen hi sp aw fg no (fun d => if cal d = true then qu d ++ [sh.length] else qu d) sh c s g p (sc 1) σ := by
      refine ⟨r1, r2, r3, r4, r5, r6, r7, fun d hd => ?_, r9, s1, s2, s3, s4, s5, s6, s7⟩
      have := r8 d hd
      rw [e2 d hd] at this
      exact this
    have k1 : σ 28 1 = sc 1 := r2.1
    rw [bX6_begins_210 hv]
    refine ⟨fun _ => ?_, fun q => absurd (Int32.le_refl _) q⟩
    refine M_settle (w := cal) hl hw (fun hm => ?_) (fun hm => ⟨s7, ?_⟩)
    · simp only [z_toN, List.nil_append]
      rw [bX6_begins_321 hv]
      rw [if_neg hm] at hQ
      exact hQ σ (MY_end h2 hw zoff_rf (fun i => by
        split
        · rename_i e; rw [e]; exact s7
        · rfl)) ho
    · simp only [z_toN, List.nil_append]
      rw [bX6_begins_321 hv, k1]
      rw [if_pos hm] at hQ
      exact hQ _ (MY_end h2 hw (zoff_put (by simp)) (fun i => by rw [zput_in])) (zMo_tr ho (zMo_put (by omega)))
  | succ n ih =>
    intro j v9 σ hv hj h hw ho
    have h' := h
    obtain ⟨r1, r2, r3, r4, r5, r6, r7, r8, r9, s1⟩ := h'
    have k0 : σ 28 0 = nI nc := r1
    have k34 := (r5 j (by omega)).1
    have k35 := (r5 j (by omega)).2
    have hspj := hsp j (by omega)
    have hqj := hq j (by omega)
    have g38 := (r8 j (by omega)).1
    rw [zqj_at] at g38
    have hno : cal j = false → ∀ v, eX6_begins (d + 2) Q 210 [.ref 28, .int (nI c), .int (nI s), .int p, .int (nI e), .int (nI sh.length), .int v6, .int v7, .int (nI (j + 1)), .int v] [] (zput σ 47 (sh.length * 4 + j) (nI 0)) := by
      intro ec v
      refine ih (j + 1) _ _ rfl (by omega) ?_ (fun d' hd' => ?_) (zMo_tr ho (zMo_put (by omega)))
      · rw [zqj_no ec]
        exact MY_qw h (zoff_put (by simp)) (MQu_c (zput_ne (by decide)) (zput_ne (by decide)) r8) (show j < 4 by omega) (fun i hi => zput_in' hi)
      · rw [zput_in]
        by_cases ed : d' = j
        · subst ed; rw [if_pos rfl, ec]; rfl
        · rw [if_neg (by omega)]; exact hw d' (by omega)
    have hyes : cal j = true → ∀ v, eX6_begins (d + 2) Q 210 [.ref 28, .int (nI c), .int (nI s), .int p, .int (nI e), .int (nI sh.length), .int v6, .int v7, .int (nI (j + 1)), .int v] [] (zput (zput (zput σ 47 (sh.length * 4 + j) (nI 1)) 39 (j * 40 + (qu j).length) (nI sh.length)) 38 j (nI ((qu j).length + 1))) := by
      intro ec v
      have o : zoff [38, 39, 47] σ (zput (zput (zput σ 47 (sh.length * 4 + j) (nI 1)) 39 (j * 40 + (qu j).length) (nI sh.length)) 38 j (nI ((qu j).length + 1))) := zoff_tr (zoff_tr (zoff_put (by simp)) (zoff_put (by simp))) (zoff_put (by simp))
      refine ih (j + 1) _ _ rfl (by omega) ?_ (fun d' hd' => ?_) (zMo_tr ho (zMo_of o rfl))
      · refine MY_qw h o (fun c' hc' => ?_) (show j < 4 by omega) (fun i hi => by rw [zput_ne (by decide), zput_ne (by decide), zput_in' hi])
        rw [zqj_yes ec, zqj_at]
        have g := r8 c' hc'
        have hz := zqj_len (cal := cal) (k := sh.length) (j := j) hq hl c' hc'
        rw [zput_in, zput_ne (by decide), zput_ne (by decide)]
        by_cases ed : c' = j
        · subst ed
          rw [va_up_self, if_pos rfl, List.length_append]
          rw [zqj_at] at g
          refine ⟨rfl, fun k hk => ?_⟩
          simp only [List.length_singleton] at hk
          rw [zput_ne (by decide), zput_in, zput_ne (by decide)]
          by_cases ek : k < (qu c').length
          · rw [if_neg (by omega), zg_apl ek]
            exact g.2 k ek
          · have ek2 : k = (qu c').length := by omega
            subst ek2
            rw [if_pos rfl, zg_last]
        · rw [va_up_ne _ _ ed, if_neg ed]
          refine ⟨g.1, fun k hk => ?_⟩
          rw [zput_ne (by decide), zput_in, zput_ne (by decide), if_neg (by omega)]
          exact g.2 k hk
      · rw [zput_ne (by decide), zput_ne (by decide), zput_in]
        by_cases ed : d' = j
        · subst ed; rw [if_pos rfl, ec]; rfl
        · rw [if_neg (by omega)]; exact hw d' (by omega)
    rw [bX6_begins_210 hv]
    simp (disch := omega) only [nI_add, pk_mul, pk_sub, nI_clamp, nI_ltE, nI_leE, nI_eqE, nI_m, nI_m', nI_lt0, vp_inE, Nat.not_lt_zero, zc3, zc4, zc5, zc16, zc20, zc40, true_implies, false_implies, not_true_eq_false, not_false_eq_true, true_and, and_true, eq_self, implies_true, z_toL, z_toN, List.cons_append, List.nil_append, zput_ne, zput_ii, k0, k34, k35, g38, z_vn0, z_vn1, zb_0]
    refine ⟨fun q => absurd q (by omega), fun _ => ⟨fun q => ⟨by omega, hno (by rw [hcal]; simp; omega) _⟩, fun q => ⟨fun q2 => ⟨by omega, hno (by rw [hcal]; simp [q2]) _⟩, fun q2 => ⟨by omega, fun q3 => ⟨by omega, hno (by rw [hcal, q3]; simp) _⟩, fun q3 => ⟨by omega, fun q4 => ⟨by omega, hno (by rw [hcal]; simp [q4]) _⟩, fun q4 => ⟨by omega, by omega, by omega, by omega, by omega, hyes ?_ _⟩⟩⟩⟩⟩⟩
    rw [hcal, decide_eq_true (by omega : j < nc), decide_eq_true q2, decide_eq_true q4]
    cases ea : aw j
    · exact absurd ea q3
    · rfl
def sHall (s e : Nat) (p : Int32) (S : zSt) : zSt := zMk (sNc S) (sSc S) (sGen S) (zhj (sHi S) s e p (sSc S 1) 16) (sSp S) (sAw S) (sFg S) (sNo S) (sQu S) (sSh S)
set_option maxRecDepth 100000 in
theorem M_begin {d : Nat} {Q : zQ} {S : zSt} {σ : zV} {c s e m : Nat} {p : Int32} (h : RM S σ) (hI : zI m S) (hc : c < sNc S) (hs : s < 3) (he : zvE e) (hp : zpg p) (hl : (sSh S).length < 40)
    (hQ : ∀ σ', RM (sBeg c s p (sHall s e p (sInc 1 S))) σ' → zMo σ σ' → Q (some (.int (nI (sSh S).length))) σ') : zCall (zUn true) (d + 3) yX6_begins [.ref 28, .int (nI c), .int (nI s), .int p, .int (nI e)] σ Q := by
  have hnc := hI.1.1.2
  have hsp := hI.1.2.2.2.1
  have hIh := hI.1.2.2.1
  have hIN := hI.1.2.2.2.2.1
  have hq2 := zIQ_len2 hI.1.2.2.2.2.2.1
  have hg40 := zInv_g hI.1 s hs
  have hf40 := zInv_f hI.1 c s (by omega) hs
  have h' := h
  obtain ⟨r1, r2, r3, r4, r5, r6, r7, r8, r9, r9'⟩ := h'
  have k1 : σ 28 1 = sSc S 1 := r2.1
  have k16 : σ 28 16 = nI (sSh S).length := r9
  have k30 := r3 s hs
  have k40 := r6 (c * 3 + s) (by omega)
  have main : ∀ (v6 : Int32) (σ1 : zV), (v6 = nI 0 ∧ ¬ sFg S (c * 3 + s) < sGen S s ∨ v6 = nI 1 ∧ sFg S (c * 3 + s) < sGen S s) → MY (sNc S) (va_up (sSc S) 1 (sSc S 1 + nI 1)) (va_up (sGen S) s (sGen S s + 1)) (sHi S) (sSp S) (sAw S) (sFg S) (sNo S) (sQu S) (sSh S) c s (sGen S s + 1) p (sSc S 1 + nI 1) σ1 → zMo σ σ1 → eX6_begins (d + 2) Q 121 [.ref 28, .int (nI c), .int (nI s), .int p, .int (nI e), .int (nI (sSh S).length), .int v6, .int (nI 0), .null, .null] [] σ1 := by
    intro v6 σ1 hv6 m1 h1o
    have et : va_up (sSc S) 1 (sSc S 1 + nI 1) 1 = sSc S 1 + nI 1 := va_up_self _ _ _
    rw [← et] at m1
    refine M_hist_loop (sc := va_up (sSc S) 1 (sSc S 1 + nI 1)) (hi := sHi S) hs he hIh (σ0 := σ) (fun σ2 m2 h2o => ?_) 16 0 σ1 rfl (by rw [zhj_0]; exact m1) h1o
    have m2' := m2
    obtain ⟨-, -, -, -, -, -, n2, -⟩ := m2'
    have fin : ∀ p' : Int32, p' = (if sFg S (c * 3 + s) < sGen S s then -nI 1 else p) → zCall (zUn true) (d + 2) yX6_forget [.ref 28, .int (nI c), .int (nI s), .int p'] σ2 (fun v σ' => eX6_begins (d + 2) Q 189 [.ref 28, .int (nI c), .int (nI s), .int p, .int (nI e), .int (nI (sSh S).length), .int v6, .int (nI 16), .null, .null] (v.toList ++ []) σ') := by
      intro p' hp'
      refine M_forget n2 hIN (by omega) hs (fun σ3 o3 m3 => ?_)
      have m3 := MY_no m2 o3 m3
      simp only [z_toL, List.cons_append, List.nil_append]
      have m3' := m3
      obtain ⟨-, -, g3, -, -, f3, -⟩ := m3'
      have k30 : σ3 30 s = nI (sGen S s + 1) := by
        have := g3 s hs
        rw [va_up_self] at this
        exact this
      rw [bX6_begins_189]
      simp (disch := omega) only [nI_add, pk_mul, nI_clamp, vp_inE, zc3, k30]
      refine ⟨hs, by omega, ?_⟩
      have f4 : MF (va_up (sFg S) (c * 3 + s) (sGen S s + 1)) (zput σ3 40 (c * 3 + s) (nI (sGen S s + 1))) := by
        intro i hi
        rw [zput_in]
        unfold va_up
        split
        · rfl
        · exact f3 i hi
      have m4 := MY_fg m3 (zoff_put (by simp)) f4
      have hq0 : zqj (zcal S c s) (sQu S) (sSh S).length 0 = sQu S := by funext d; unfold zqj; simp
      refine M_call_loop (sc := va_up (sSc S) 1 (sSc S 1 + nI 1)) (cal := zcal S c s) (qu := sQu S) (sh := sSh S) hnc hc hs hl hsp hq2 (fun j => zcal_eq) (σ0 := σ) (fun σ' m ho => hQ σ' ?_ ho) 4 0 .null _ rfl rfl (by rw [hq0]; exact m4) (fun d hd => absurd hd (by omega)) (zMo_tr h2o (zMo_tr (zMo_of o3 rfl) (zMo_put (by omega))))
      rw [hp'] at m
      exact m
    rw [bX6_begins_121]
    refine ⟨fun _ => ⟨fun q => fin p ?_, fun q => fin (-nI 1) ?_⟩, fun q => absurd (Int32.le_refl _) q⟩
    · rcases hv6 with ⟨-, z⟩ | ⟨z, -⟩
      · rw [if_neg z]
      · rw [z] at q; exact absurd q (by decide)
    · rcases hv6 with ⟨z, -⟩ | ⟨-, z⟩
      · exact absurd z q
      · rw [if_pos z]
  have start : ∀ σ1, (∃ x16 x46 : Int32, x16 = nI ((sSh S).length + 1) ∧ x46 = -nI 1 ∧ σ1 = zput (zput (zput (zput (zput (zput (zput (zput (zput σ 28 1 (sSc S 1 + nI 1)) 28 16 x16) 30 s (nI (sGen S s + 1))) 41 (sSh S).length (nI c)) 42 (sSh S).length (nI s)) 43 (sSh S).length p) 44 (sSh S).length (nI (sGen S s + 1))) 45 (sSh S).length (sSc S 1 + nI 1)) 46 (sSh S).length x46) → MY (sNc S) (va_up (sSc S) 1 (sSc S 1 + nI 1)) (va_up (sGen S) s (sGen S s + 1)) (sHi S) (sSp S) (sAw S) (sFg S) (sNo S) (sQu S) (sSh S) c s (sGen S s + 1) p (sSc S 1 + nI 1) σ1 := by
    rintro σ1 ⟨x16, x46, hx, hx2, rfl⟩
    obtain ⟨t1, t2, t3, t4, t5, t6, t7, t8, t9⟩ := r2
    refine ⟨?_, ?_, fun s' hs' => ?_, MH_c ?_ ?_ ?_ ?_ r4, MK_c ?_ ?_ r5, MF_c ?_ r6, MN_c ?_ ?_ r7, MQu_c ?_ ?_ r8, fun k hk => ?_, ?_, ?_, ?_, ?_, ?_, ?_, ?_⟩
    · show _ = _
      simp (disch := omega) only [zput_ne, zput_ii, zput_in']
      exact r1
    · show _ ∧ _
      simp (disch := omega) only [zput_ne, zput_ii, zput_in', va_up, t1, t2, t3, t4, t5, t6, t7, t8, t9]
      simp
    · simp (disch := omega) only [zput_ne, zput_in]
      unfold va_up
      split
      · rfl
      · exact r3 s' hs'
    · simp (disch := omega) only [zput_ne, zput_ii, zput_in']
    · simp (disch := omega) only [zput_ne, zput_ii, zput_in']
    · simp (disch := omega) only [zput_ne, zput_ii, zput_in']
    · simp (disch := omega) only [zput_ne, zput_ii, zput_in']
    · simp (disch := omega) only [zput_ne, zput_ii, zput_in']
    · simp (disch := omega) only [zput_ne, zput_ii, zput_in']
    · simp (disch := omega) only [zput_ne, zput_ii, zput_in']
    · simp (disch := omega) only [zput_ne, zput_ii, zput_in']
    · simp (disch := omega) only [zput_ne, zput_ii, zput_in']
    · simp (disch := omega) only [zput_ne, zput_ii, zput_in']
    · simp (disch := omega) only [zput_ne, zput_ii, zput_in']
    · have y := r9' k hk
      unfold MSr at *
      simp (disch := omega) only [zput_ne, zput_ii, zput_in']
      exact y
    · simp (disch := omega) only [zput_ne, zput_ii, zput_in']
      exact hx
    · simp (disch := omega) only [zput_ne, zput_ii, zput_in']
    · simp (disch := omega) only [zput_ne, zput_ii, zput_in']
    · simp (disch := omega) only [zput_ne, zput_ii, zput_in']
    · simp (disch := omega) only [zput_ne, zput_ii, zput_in']
    · simp (disch := omega) only [zput_ne, zput_ii, zput_in']
    · simp (disch := omega) only [zput_ne, zput_ii, zput_in']
      exact hx2
  have startO : ∀ σ1, (∃ x16 x46 : Int32, σ1 = zput (zput (zput (zput (zput (zput (zput (zput (zput σ 28 1 (sSc S 1 + nI 1)) 28 16 x16) 30 s (nI (sGen S s + 1))) 41 (sSh S).length (nI c)) 42 (sSh S).length (nI s)) 43 (sSh S).length p) 44 (sSh S).length (nI (sGen S s + 1))) 45 (sSh S).length (sSc S 1 + nI 1)) 46 (sSh S).length x46) → zMo σ σ1 := by
    rintro σ1 ⟨x16, x46, rfl⟩
    intro k hk
    simp (disch := omega) only [zput_ne]
  rw [nX6_begins, bX6_begins_0]
  simp (disch := omega) only [nI_add, pk_mul, nI_clamp, nI_leE, vp_inE, zc3, zput_ne, zput_ii, zput_in', k1, k16, k30, k40]
  refine ⟨by omega, hs, fun q => ⟨hs, hs, hl, hl, hl, hs, hl, hl, hl, main (nI 0) _ (Or.inl ⟨rfl, by omega⟩) (start _ ⟨_, _, rfl, rfl, rfl⟩) (startO _ ⟨_, _, rfl⟩)⟩, fun q => ⟨hs, hs, hl, hl, hl, hs, hl, hl, hl, main (nI 1) _ (Or.inr ⟨rfl, by omega⟩) (start _ ⟨_, _, rfl, rfl, rfl⟩) (startO _ ⟨_, _, rfl⟩)⟩⟩
