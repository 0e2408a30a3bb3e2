/-! the model: all calls, catching up -/
theorem M_takeAll_loop {d : Nat} {Q : zQ} {c m : Nat} (hm : m < 2 ^ 30) (hc : c < 4) (L : Nat) (hL : L ≤ 40) : ∀ (n i : Nat) (S : zSt) (σ : zV) (v3 : Value), v3.category = 1 → n + i = L → (sQu S c).length = n → RM S σ → zI m S → (∀ σ', RM (sTakeN n c S) σ' → zMo σ σ' → Q (some (.int (nI L))) σ') → eX6_takeAll (d + 3) Q 2 [.ref 28, .int (nI c), .int (nI i), v3] [] σ := by
  intro n
  induction n with
  | zero =>
    intro i S σ v3 hv hi hq h hI hQ
    have g1 := (h.2.2.2.2.2.2.2.1 c hc).1
    rw [hq] at g1
    rw [bX6_takeAll_2 hv]
    simp (disch := omega) only [nI_add, pk_mul, pk_sub, nI_clamp, nI_ltE, nI_leE, nI_eqE, nI_m, nI_m', nI_lt0, vp_inE, Nat.not_lt_zero, zc3, zc4, zc5, zc16, zc20, zc40, true_implies, false_implies, not_true_eq_false, not_false_eq_true, true_and, and_true, eq_self, implies_true, z_toL, z_toN, List.cons_append, List.nil_append, g1, Nat.le_refl]
    rw [show i = L by omega]
    exact ⟨hc, hQ σ h zMo_rf⟩
  | succ n ih =>
    intro i S σ v3 hv hi hq h hI hQ
    have g1 := (h.2.2.2.2.2.2.2.1 c hc).1
    rw [hq] at g1
    rw [bX6_takeAll_2 hv]
    simp (disch := omega) only [nI_add, pk_mul, pk_sub, nI_clamp, nI_ltE, nI_leE, nI_eqE, nI_m, nI_m', nI_lt0, vp_inE, Nat.not_lt_zero, zc3, zc4, zc5, zc16, zc20, zc40, true_implies, false_implies, not_true_eq_false, not_false_eq_true, true_and, and_true, eq_self, implies_true, z_toL, z_toN, List.cons_append, List.nil_append, g1]
    refine ⟨hc, fun q => absurd q (by omega), fun _ => ?_⟩
    refine M_take h hI.1 hc (fun q => absurd hq (by rw [q]; simp)) (fun k t hkt σ' m1 o1 => ?_)
    simp only [z_toL, List.cons_append, List.nil_append]
    rw [bX6_takeAll_16 hv]
    simp only [nI_add]
    refine ih (i + 1) (sTake c k S) σ' _ rfl (by omega) (by rw [sTake_q hkt]; rw [hkt] at hq; simpa using hq) m1 (zI_take hI hm hc hkt) (fun σ2 m2 o2 => hQ σ2 ?_ (zMo_tr o1 o2))
    simp only [sTakeN, hkt]
    exact m2
theorem M_takeAll {d : Nat} {Q : zQ} {c m : Nat} {S : zSt} {σ : zV} (h : RM S σ) (hI : zI m S) (hm : m < 2 ^ 30) (hc : c < 4) (hQ : ∀ σ', RM (sTakeN (sQu S c).length c S) σ' → zMo σ σ' → Q (some (.int (nI (sQu S c).length))) σ') : zCall (zUn true) (d + 4) yX6_takeAll [.ref 28, .int (nI c)] σ Q := by
  have hl := zInv_q hI.1 c hc
  rw [nX6_takeAll, bX6_takeAll_0]
  exact M_takeAll_loop hm hc _ hl _ 0 S σ .null rfl (by omega) rfl h hI hQ
theorem M_cau {d : Nat} {Q : zQ} {c m : Nat} {S : zSt} {σ : zV} (h : RM S σ) (hI : zI m S) (hc : c < 4) (hQ : ∀ σ', RM (sCau c S) σ' → zMo σ σ' → Q (some (.int (nI (zcau c S)))) σ') : zCall (zUn true) (d + 3) yX6_catchUp [.ref 28, .int (nI c)] σ Q := by
  have h' := h
  obtain ⟨r1, r2, r3, r4, r5, r6, r7, r8, r9⟩ := h'
  have hs := hI.1.2.2.2.1 c hc
  have k34 := (r5 c hc).1
  have k30 := r3 _ hs
  have k40 := r6 (c * 3 + sSp S c) (by omega)
  have hg := zInv_g hI.1 _ hs
  have hf := zInv_f hI.1 c _ hc hs
  rw [nX6_catchUp, bX6_catchUp_0]
  simp (disch := omega) only [nI_add, pk_mul, pk_sub, nI_clamp, nI_ltE, nI_leE, nI_eqE, nI_m, nI_m', nI_lt0, vp_inE, Nat.not_lt_zero, zc3, zc4, zc5, zc16, zc20, zc40, true_implies, false_implies, not_true_eq_false, not_false_eq_true, true_and, and_true, eq_self, implies_true, z_toL, z_toN, List.cons_append, List.nil_append, k34, k30, k40]
  refine ⟨hc, by omega, by omega, fun q => ⟨by omega, by omega, ?_⟩, fun q => ?_⟩
  · have m0 : RM (sRai c (sSp S c) (sGen S (sSp S c)) S) (zput σ 40 (c * 3 + sSp S c) (nI (sGen S (sSp S c)))) := RM_rai h (by rw [if_pos q])
    have n0 : MN (sNo S) (zput σ 40 (c * 3 + sSp S c) (nI (sGen S (sSp S c)))) := m0.2.2.2.2.2.2.1
    have hIt : zIN (sNo S) := hI.1.2.2.2.2.1
    refine M_forget n0 hIt hc hs (fun σ1 o1 m1 => ?_)
    have m1 := RM_forg (S := sRai c (sSp S c) (sGen S (sSp S c)) S) m0 o1 m1
    simp only [z_toL, List.cons_append, List.nil_append]
    have k29 : σ1 28 29 = sSc S 9 := m1.2.1.2.2.2.2.2.2.2.2
    rw [bX6_catchUp_51, k29]
    have e1 : sCau c S = sSet 9 (sSc S 9 + nI (zcau c S)) (sRai c (sSp S c) (sGen S (sSp S c)) (sForg c (sSp S c) (-nI 1) S)) := by unfold sCau; rw [if_neg (by omega)]
    have e2 : zcau c S = (sNo S c).length - (zkeep (sSp S c) (-nI 1) (sNo S c)).length := by unfold zcau; rw [if_neg (by omega)]
    have w := RM_set9 m1 (sSc S 9 + nI (zcau c S))
    have w : RM (sCau c S) (zput σ1 28 29 (sSc S 9 + nI (zcau c S))) := by rw [e1]; exact w
    rw [← e2]
    exact hQ _ w (zMo_tr (zMo_put (by omega)) (zMo_tr (zMo_of o1 rfl) (zMo_put (by omega))))
  · have e1 : sCau c S = S := by unfold sCau; rw [if_pos (by omega)]
    have e2 : zcau c S = 0 := by unfold zcau; rw [if_pos (by omega)]
    have := hQ σ (by rw [e1]; exact h) zMo_rf
    rw [e2] at this
    exact this
/-! the model: a shoot begun -/
def zlast (l : List (Nat × Int32)) : Nat := (zg l (l.length - 1) zh0).1
/-- pages below j of a space become e, those that are meant -/
def zhj (hi : Nat → List (Nat × Int32)) (s e : Nat) (p t : Int32) (j : Nat) : Nat → List (Nat × Int32) := fun q => if (s * 16 ≤ q ∧ q < s * 16 + j) ∧ (p = nI (q - s * 16) ∨ (p = -nI 1 ∧ zlast (hi q) ≠ 0)) then zadh (hi q) (e, t) else hi q
theorem zhj_0 {hi : Nat → List (Nat × Int32)} {s e : Nat} {p t : Int32} : zhj hi s e p t 0 = hi := by
  funext q
  unfold zhj
  rw [if_neg (by omega)]
theorem zhj_no {hi : Nat → List (Nat × Int32)} {s e : Nat} {p t : Int32} {j : Nat} (h : ¬ (p = nI j ∨ (p = -nI 1 ∧ zlast (hi (s * 16 + j)) ≠ 0))) : zhj hi s e p t (j + 1) = zhj hi s e p t j := by
  funext q
  unfold zhj
  by_cases e1 : q = s * 16 + j
  · subst e1
    rw [show s * 16 + j - s * 16 = j by omega, if_neg (fun z => h z.2), if_neg (fun z => h z.2)]
  · by_cases e2 : s * 16 ≤ q ∧ q < s * 16 + j
    · have e3 : (s * 16 ≤ q ∧ q < s * 16 + (j + 1)) := by omega
      simp only [e2, e3, true_and]
    · rw [if_neg (fun z => e2 (by omega)), if_neg (fun z => e2 z.1)]
theorem zhj_yes {hi : Nat → List (Nat × Int32)} {s e : Nat} {p t : Int32} {j : Nat} (h : p = nI j ∨ (p = -nI 1 ∧ zlast (hi (s * 16 + j)) ≠ 0)) : zhj hi s e p t (j + 1) = va_up (zhj hi s e p t j) (s * 16 + j) (zadh (zhj hi s e p t j (s * 16 + j)) (e, t)) := by
  funext q
  unfold va_up
  by_cases e1 : q = s * 16 + j
  · subst e1
    rw [if_pos rfl]
    unfold zhj
    rw [show s * 16 + j - s * 16 = j by omega, if_pos ⟨by omega, h⟩, if_neg (by omega)]
  · rw [if_neg e1]
    unfold zhj
    by_cases e2 : s * 16 ≤ q ∧ q < s * 16 + j
    · have e3 : (s * 16 ≤ q ∧ q < s * 16 + (j + 1)) := by omega
      simp only [e2, e3, true_and]
    · rw [if_neg (fun z => e2 (by omega)), if_neg (fun z => e2 z.1)]
theorem zhj_at {hi : Nat → List (Nat × Int32)} {s e j : Nat} {p t : Int32} : zhj hi s e p t j (s * 16 + j) = hi (s * 16 + j) := by
  unfold zhj
  rw [if_neg (by omega)]
theorem zIH_hj {hi : Nat → List (Nat × Int32)} {s e j : Nat} {p t : Int32} (h : zIH hi) (he : zvE e) : zIH (zhj hi s e p t j) := by
  intro q hq
  unfold zhj
  split
  · exact zadh_ok (h q hq).2.1 (h q hq).2.2 he
  · exact h q hq
def MY (nc : Nat) (sc : Nat → Int32) (gen : Nat → Nat) (hi : Nat → List (Nat × Int32)) (sp : Nat → Nat) (aw : Nat → Bool) (fg : Nat → Nat) (no : Nat → List zNote) (qu : Nat → List Nat) (sh : List zSh) (c s g : Nat) (p t : Int32) (σ : zV) : Prop :=
  MC nc σ ∧ MT sc σ ∧ MG gen σ ∧ MH hi σ ∧ MK sp aw σ ∧ MF fg σ ∧ MN no σ ∧ MQu qu σ ∧ (∀ k, k < sh.length → MSr (zg sh k zs0) k σ) ∧ σ 28 16 = nI (sh.length + 1) ∧ σ 41 sh.length = nI c ∧ σ 42 sh.length = nI s ∧ σ 43 sh.length = p ∧ σ 44 sh.length = nI g ∧ σ 45 sh.length = t ∧ σ 46 sh.length = -nI 1
theorem MSr_c {r : zSh} {k : Nat} {σ σ' : zV} (h1 : σ' 41 = σ 41) (h2 : σ' 42 = σ 42) (h3 : σ' 43 = σ 43) (h4 : σ' 44 = σ 44) (h5 : σ' 45 = σ 45) (h6 : σ' 46 = σ 46) (h7 : σ' 47 = σ 47) (h : MSr r k σ) : MSr r k σ' := by
  unfold MSr at *
  rw [h1, h2, h3, h4, h5, h6, h7]
  exact h
theorem MY_hi {nc : Nat} {sc : Nat → Int32} {gen : Nat → Nat} {hi hi' : Nat → List (Nat × Int32)} {sp : Nat → Nat} {aw : Nat → Bool} {fg : Nat → Nat} {no : Nat → List zNote} {qu : Nat → List Nat} {sh : List zSh} {c s g : Nat} {p t : Int32} {σ σ' : zV} (h : MY nc sc gen hi sp aw fg no qu sh c s g p t σ) (o : zoff [29, 31, 32, 33] σ σ') (hH : MH hi' σ') : MY nc sc gen hi' sp aw fg no qu sh c s g p t σ' := by
  obtain ⟨r1, r2, r3, r4, r5, r6, r7, r8, r9, s1, s2, s3, s4, s5, s6, s7⟩ := h
  refine ⟨MC_c (o 28 (by simp)) r1, MT_c (o 28 (by simp)) r2, MG_c (o 30 (by simp)) r3, hH, MK_c (o 34 (by simp)) (o 35 (by simp)) r5, MF_c (o 40 (by simp)) r6, MN_c (o 36 (by simp)) (o 37 (by simp)) r7, MQu_c (o 38 (by simp)) (o 39 (by simp)) r8, fun k hk => MSr_c (o 41 (by simp)) (o 42 (by simp)) (o 43 (by simp)) (o 44 (by simp)) (o 45 (by simp)) (o 46 (by simp)) (o 47 (by simp)) (r9 k hk), ?_, ?_, ?_, ?_, ?_, ?_, ?_⟩
  · rw [o 28 (by simp)]; exact s1
  · rw [o 41 (by simp)]; exact s2
  · rw [o 42 (by simp)]; exact s3
  · rw [o 43 (by simp)]; exact s4
  · rw [o 44 (by simp)]; exact s5
  · rw [o 45 (by simp)]; exact s6
  · rw [o 46 (by simp)]; exact s7
theorem MY_no {nc : Nat} {sc : Nat → Int32} {gen : Nat → Nat} {hi : Nat → List (Nat × Int32)} {sp : Nat → Nat} {aw : Nat → Bool} {fg : Nat → Nat} {no no' : Nat → List zNote} {qu : Nat → List Nat} {sh : List zSh} {c s g : Nat} {p t : Int32} {σ σ' : zV} (h : MY nc sc gen hi sp aw fg no qu sh c s g p t σ) (o : zoff [36, 37] σ σ') (hN : MN no' σ') : MY nc sc gen hi sp aw fg no' qu sh c s g p t σ' := by
  obtain ⟨r1, r2, r3, r4, r5, r6, r7, r8, r9, s1, s2, s3, s4, s5, s6, s7⟩ := h
  refine ⟨MC_c (o 28 (by simp)) r1, MT_c (o 28 (by simp)) r2, MG_c (o 30 (by simp)) r3, MH_c (o 31 (by simp)) (o 33 (by simp)) (o 32 (by simp)) (o 29 (by simp)) r4, MK_c (o 34 (by simp)) (o 35 (by simp)) r5, MF_c (o 40 (by simp)) r6, hN, MQu_c (o 38 (by simp)) (o 39 (by simp)) r8, fun k hk => MSr_c (o 41 (by simp)) (o 42 (by simp)) (o 43 (by simp)) (o 44 (by simp)) (o 45 (by simp)) (o 46 (by simp)) (o 47 (by simp)) (r9 k hk), ?_, ?_, ?_, ?_, ?_, ?_, ?_⟩
  · rw [o 28 (by simp)]; exact s1
  · rw [o 41 (by simp)]; exact s2
  · rw [o 42 (by simp)]; exact s3
  · rw [o 43 (by simp)]; exact s4
  · rw [o 44 (by simp)]; exact s5
  · rw [o 45 (by simp)]; exact s6
  · rw [o 46 (by simp)]; exact s7
theorem M_hist_loop {d : Nat} {Q : zQ} {nc : Nat} {sc : Nat → Int32} {gen : Nat → Nat} {hi : Nat → List (Nat × Int32)} {sp : Nat → Nat} {aw : Nat → Bool} {fg : Nat → Nat} {no : Nat → List zNote} {qu : Nat → List Nat} {sh : List zSh} {c s g e : Nat} {p v5 v6 : Int32} (hs : s < 3) (he : zvE e) (hI : zIH hi) {σ0 : zV}
    (hQ : ∀ σ', MY nc sc gen (zhj hi s e p (sc 1) 16) sp aw fg no qu sh c s g p (sc 1) σ' → zMo σ0 σ' → eX6_begins (d + 2) Q 121 [.ref 28, .int (nI c), .int (nI s), .int p, .int (nI e), .int v5, .int v6, .int (nI 16), .null, .null] [] σ') :
    ∀ n j σ', n + j = 16 → MY nc sc gen (zhj hi s e p (sc 1) j) sp aw fg no qu sh c s g p (sc 1) σ' → zMo σ0 σ' → eX6_begins (d + 2) Q 121 [.ref 28, .int (nI c), .int (nI s), .int p, .int (nI e), .int v5, .int v6, .int (nI j), .null, .null] [] σ' := by
  intro n
  induction n with
  | zero =>
    intro j σ' hj h ho
    have hj : j = 16 := by omega
    subst hj
    exact hQ σ' h ho
  | succ n ih =>
    intro j σ' hj h ho
    have h' := h
    obtain ⟨r1, r2, r3, r4, r5, r6, r7, r8, r9, s1⟩ := h'
    have k1 : σ' 28 1 = sc 1 := r2.1
    have hIj : zIH (zhj hi s e p (sc 1) j) := zIH_hj hI he
    have k29 : σ' 29 (s * 16 + j) = nI (zlast (hi (s * 16 + j))) := by
      have := (r4 (s * 16 + j) (by omega)).2.2
      rw [zhj_at] at this
      exact this
    have hlt : zlast (hi (s * 16 + j)) < 1024 := by
      have := (hI (s * 16 + j) (by omega))
      have := this.2.2 _ (zg_mem (x := zh0) (show (hi (s * 16 + j)).length - 1 < (hi (s * 16 + j)).length by omega))
      unfold zlast
      unfold zvE at this
      omega
    have hno : ¬ (p = nI j ∨ (p = -nI 1 ∧ zlast (hi (s * 16 + j)) ≠ 0)) → eX6_begins (d + 2) Q 121 [.ref 28, .int (nI c), .int (nI s), .int p, .int (nI e), .int v5, .int v6, .int (nI (j + 1)), .null, .null] [] σ' := by
      intro q
      refine ih (j + 1) σ' (by omega) ?_ ho
      rw [zhj_no q]
      exact h
    have hyes : (p = nI j ∨ (p = -nI 1 ∧ zlast (hi (s * 16 + j)) ≠ 0)) → zCall (zUn true) (d + 2) yX6_become [.ref 28, .int (nI (s * 16 + j)), .int (nI e)] σ' (fun v σ' => eX6_begins (d + 2) Q 167 [.ref 28, .int (nI c), .int (nI s), .int p, .int (nI e), .int v5, .int v6, .int (nI j), .null, .null] (v.toList ++ []) σ') := by
      intro q
      refine M_become r4 hIj (by omega) k1 (fun σ2 o2 m2 => ?_)
      simp only [z_toN, List.nil_append]
      rw [bX6_begins_167]
      simp only [nI_add]
      refine ih (j + 1) σ2 (by omega) ?_ (zMo_tr ho (zMo_of o2 rfl))
      rw [zhj_yes q]
      exact MY_hi h o2 m2
    rw [bX6_begins_121]
    simp (disch := omega) only [nI_add, pk_mul, pk_sub, nI_clamp, nI_ltE, nI_leE, nI_eqE, nI_m, nI_m', nI_lt0, vp_inE, Nat.not_lt_zero, zc3, zc4, zc5, zc16, zc20, zc40, true_implies, false_implies, not_true_eq_false, not_false_eq_true, true_and, and_true, eq_self, implies_true, z_toL, z_toN, List.cons_append, List.nil_append, k29]
    refine ⟨fun q => absurd q (by omega), fun _ => ⟨fun q => hyes (Or.inl q), fun q => ⟨fun q2 => hno (fun z => z.elim q (fun z => q2 z.1)), fun q2 => ⟨by omega, fun q3 => hno (fun z => z.elim q (fun z => z.2 q3)), fun q3 => hyes (Or.inr ⟨q2, q3⟩)⟩⟩⟩⟩
