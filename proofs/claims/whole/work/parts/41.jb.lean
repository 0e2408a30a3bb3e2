/-! the model: looks -/
theorem M_walk {d : Nat} {Q : zQ} {S : zSt} {σ : zV} {c s p n : Nat} {tw : Int32} (h : RM S σ) (hI : zI n S) (hc : c < 4) (hs : s < 3) (hp : p < 16)
    (h1 : zflt s p tw S → ∀ σ', RM (sFlt S) σ' → zMo σ σ' → Q (some (.int (-nI 105))) σ')
    (h2 : ¬ zflt s p tw S → ∀ σ', RM (sWlk c s p S) σ' → zMo σ σ' → Q (some (.int (nI (zef (zlast (sHi S (s * 16 + p))))))) σ') : eX6_look (d + 2) Q 103 [.ref 28, .int (nI c), .int (nI p), .int tw, .int (nI s), .int (-nI 1), .null] [] σ := by
  have a6 := zM_now h hs hp
  have a5 : zvE (zlast (sHi S (s * 16 + p))) := by
    obtain ⟨h3, h4, h5⟩ := hI.1.2.2.1 (s * 16 + p) (by omega)
    exact h5 _ (zg_mem (x := zh0) (show (sHi S (s * 16 + p)).length - 1 < _ by omega))
  have a7 := zvE_lt a5
  have k27 : σ 28 27 = sSc S 7 := h.2.1.2.2.2.2.2.2.1
  have k26 : σ 28 26 = sSc S 6 := h.2.1.2.2.2.2.2.1
  have f2 : RM (sFlt S) (zput (zput σ 28 27 (sSc S 7 + nI 1)) 28 3 (nI 4)) := RM_set2 (RM_set7 h (sSc S 7 + nI 1)) (nI 4)
  have fo : zMo σ (zput (zput σ 28 27 (sSc S 7 + nI 1)) 28 3 (nI 4)) := zMo_tr (zMo_put (by omega)) (zMo_put (by omega))
  have w2 : RM (sSet 2 (nI 3) (sInc 6 S)) (zput (zput σ 28 26 (sSc S 6 + nI 1)) 28 3 (nI 3)) := RM_set2 (RM_set6 h (sSc S 6 + nI 1)) (nI 3)
  have wo : zMo σ (zput (zput σ 28 26 (sSc S 6 + nI 1)) 28 3 (nI 3)) := zMo_tr (zMo_put (by omega)) (zMo_put (by omega))
  have k1 : zput (zput σ 28 26 (sSc S 6 + nI 1)) 28 3 (nI 3) 28 1 = sSc S 1 := w2.2.1.1
  have e1 : nI 16 * nI s + nI p = nI (s * 16 + p) := by rw [pk_mul, nI_add, zc16]
  have in1 : vp_in (nI (s * 16 + p)) 48 := by rw [vp_inE (by omega)]; omega
  have cl1 : (nI (s * 16 + p)).toNatClampNeg = s * 16 + p := nI_clamp (by omega)
  have kp : ¬ zflt s p tw S → zCall (zUn true) (d + 2) yX6_takeNote [.ref 28, .int (nI c), .int (nI s), .int (nI p), .int (nI (zlast (sHi S (s * 16 + p))))] (zput (zput σ 28 26 (sSc S 6 + nI 1)) 28 3 (nI 3)) (fun v σ' => eX6_look (d + 2) Q 259 [.ref 28, .int (nI c), .int (nI p), .int tw, .int (nI s), .int (-nI 1), .int (nI (zlast (sHi S (s * 16 + p))))] (v.toList ++ []) σ') := by
    intro hn
    refine M_note (d := d) (n := (s, p, zlast (sHi S (s * 16 + p)), sSc S 1)) w2.2.2.2.2.2.2.1 hI.1.2.2.2.2.1 hc k1 (fun σ' o hN => ?_)
    simp only [z_toN, List.nil_append]
    rw [bX6_look_259]
    have hq := h2 hn σ' (RM_note w2 o hN) (zMo_tr wo (zMo_of o rfl))
    have e0 : zlast (sHi S (s * 16 + p)) ≠ 0 := fun z => hn (Or.inl z)
    exact zef_M (P := fun x => Q (some (.int x)) σ') a5 e0 hq
  rw [bX6_look_103, e1]
  simp only [in1, cl1, a6, k27, k26, eq_self, not_true_eq_false, true_implies, false_implies, true_and, and_true]
  simp (disch := omega) only [nI_eqE, nI_leE]
  refine ⟨fun q => h1 (Or.inl q) _ f2 fo, fun q => ⟨fun q2 => kp ?_, fun q2 => ⟨fun q3 => kp ?_, fun q3 => h1 (Or.inr ⟨q2, q3⟩) _ f2 fo⟩⟩⟩
  · rintro (z | ⟨z, _⟩)
    · exact q z
    · exact z q2
  · rintro (z | ⟨_, z⟩)
    · exact q z
    · exact z q3
theorem sS5_0 {S : zSt} : sSet 5 (sSc S 5 + nI 0) S = S := by
  have e : va_up (sSc S) 5 (sSc S 5 + nI 0) = sSc S := by
    funext k
    unfold va_up
    split
    · rename_i q; rw [q]; exact Int32.add_zero _
    · rfl
  unfold sSet
  rw [e]
  rfl
theorem M_go {d : Nat} {Q : zQ} {S : zSt} {σ : zV} {c k n : Nat} {s p : Int32} {tw : Int32} (h : RM S σ) (hI : zI n S) (hc : c < 4) (hk : k < (sNo S c).length) (hQ : ∀ σ', RM (sHit (zg (sNo S c) k zn0) S) σ' → zMo σ σ' → Q (some (.int (nI (zef (zg (sNo S c) k zn0).2.2.1)))) σ') : eX6_look (d + 2) Q 103 [.ref 28, .int (nI c), .int p, .int tw, .int s, .int (nI k), .null] [] σ := by
  obtain ⟨g0, g1, g2, g3, g4⟩ := zno hI hc hk
  have k24 : σ 28 24 = sSc S 4 := h.2.1.2.2.2.1
  have m1 : RM (sInc 4 S) (zput σ 28 24 (sSc S 4 + nI 1)) := RM_set4 h _
  have o1 : zMo σ (zput σ 28 24 (sSc S 4 + nI 1)) := zMo_put (by omega)
  have hI1 : zI n (sInc 4 S) := zI_set hI (by omega)
  have nk : (nI k = -nI 1) = False := nI_m (by omega) (by omega) (by omega)
  rw [bX6_look_103, k24]
  simp only [nk, false_implies, true_and, not_false_eq_true, true_implies]
  generalize zput σ 28 24 (sSc S 4 + nI 1) = σ1 at m1 o1
  refine M_stale (d := d + 1) m1 hI1 hc hk ?_
  have es : zstl (sInc 4 S) (zg (sNo (sInc 4 S) c) k zn0) = zstl S (zg (sNo S c) k zn0) := rfl
  have k25 : σ1 28 25 = sSc (sInc 4 S) 5 := m1.2.1.2.2.2.2.1
  have x3 : σ1 37 (c * 20 + k * 5 + 2) = nI (zg (sNo S c) k zn0).2.2.1 := ((m1.2.2.2.2.2.2.1 c hc).2 k hk).2.2.1
  have e0 : nI 20 * nI c + nI 5 * nI k = nI (c * 20 + k * 5) := by rw [pk_mul, pk_mul, nI_add, zc20, zc5]
  have in1 : vp_in (nI (c * 20 + k * 5 + 2)) 80 := by rw [vp_inE (by omega)]; omega
  have cl1 : (nI (c * 20 + k * 5 + 2)).toNatClampNeg = c * 20 + k * 5 + 2 := nI_clamp (by omega)
  have y0 : RM (sSet 2 (nI 1) (sInc 4 S)) (zput (zput σ1 28 25 (sSc (sInc 4 S) 5 + nI 0)) 28 3 (nI 1)) := by
    have := RM_set2 (RM_set5 m1 (sSc (sInc 4 S) 5 + nI 0)) (nI 1)
    rwa [sS5_0] at this
  have y1 : RM (sSet 2 (nI 2) (sInc 5 (sInc 4 S))) (zput (zput σ1 28 25 (sSc (sInc 4 S) 5 + nI 1)) 28 3 (nI 2)) := RM_set2 (RM_set5 m1 (sSc (sInc 4 S) 5 + nI 1)) (nI 2)
  have p0 : zMo σ (zput (zput σ1 28 25 (sSc (sInc 4 S) 5 + nI 0)) 28 3 (nI 1)) := zMo_tr o1 (zMo_tr (zMo_put (by omega)) (zMo_put (by omega)))
  have p1 : zMo σ (zput (zput σ1 28 25 (sSc (sInc 4 S) 5 + nI 1)) 28 3 (nI 2)) := zMo_tr o1 (zMo_tr (zMo_put (by omega)) (zMo_put (by omega)))
  have ho := hQ
  unfold sHit at ho
  simp only [z_toL, List.cons_append, List.nil_append]
  rw [es, bX6_look_126, k25, e0]
  simp only [nI_add, in1, cl1]
  cases ez : zstl S (zg (sNo S c) k zn0)
  · rw [ez, if_neg (by decide)] at ho
    have ev : zb false = nI 0 := rfl
    simp (disch := omega) only [ev, eq_self, not_true_eq_false, true_implies, false_implies, true_and, and_true, zput_ne, x3]
    exact zef_M (P := fun x => Q (some (.int x)) _) g3 g4 (ho _ y0 p0)
  · rw [ez, if_pos rfl] at ho
    have ev : zb true = nI 1 := rfl
    simp (disch := omega) only [ev, z_10, not_false_eq_true, true_implies, false_implies, true_and, and_true, zput_ne, x3]
    exact zef_M (P := fun x => Q (some (.int x)) _) g3 g4 (ho _ y1 p1)
