/-! what is always so, behind a shoot's begin -/
theorem zund_no {sh : List zSh} {c : Nat} (hl : sh.length < 2 ^ 31) (hf : zund sh c = -nI 1) : ∀ j, j < sh.length → ¬ ((zg sh j zs0).1 = c ∧ (zg sh j zs0).2.2.2.2.2.1 = -nI 1) := by
  unfold zund at hf
  rcases zfst_of (p := fun k => decide ((zg sh k zs0).1 = c) && decide ((zg sh k zs0).2.2.2.2.2.1 = -nI 1)) (n := sh.length) with ⟨q1, q2⟩ | ⟨k, q1, q2, -⟩
  · intro j hj h
    have := q2 j hj
    rw [h.1, h.2] at this
    simp at this
  · rw [q1] at hf
    exact absurd hf (by show ¬ nI k = -nI 1; rw [nI_m (by omega) (by omega) (by omega)]; exact id)
theorem zI_beg {n c s : Nat} {p : Int32} {S : zSt} (h : zI n S) (hn : n < 2 ^ 30) (hc : c < sNc S) (hs : s < 3) (hp : zpg p) (hl : (sSh S).length < 40) (hf : zund (sSh S) c = -nI 1) : zI n (sBeg c s p S) := by
  obtain ⟨⟨h1, ⟨tm, ht, hte⟩, h3, h4, h5, h6, ⟨h7, h8, h9⟩, h10, h11⟩, h12⟩ := h
  have hno := zund_no (by omega) hf
  have htn : ¬ sSc S 1 = -nI 1 := by rw [hte, nI_m (by omega) (by omega) (by omega)]; exact id
  refine ⟨⟨h1, ⟨tm, ht, hte⟩, h3, h4, zIN_keep h5, fun d hd => ?_, ⟨?_, ?_, ?_⟩, ?_, ?_⟩, ?_⟩
  · obtain ⟨g1, g2, g3⟩ := h6 d hd
    have e1 : sSh (sBeg c s p S) = sSh S ++ [(c, s, p, sGen S s + 1, sSc S 1, if zmask (zcal S c s) = 0 then sSc S 1 else -nI 1, zcal S c s)] := rfl
    have e2 : sQu (sBeg c s p S) d = (if zcal S c s d = true then sQu S d ++ [(sSh S).length] else sQu S d) := rfl
    have e3 : sNc (sBeg c s p S) = sNc S := rfl
    rw [e1, e2, e3]
    rw [List.length_append]
    simp only [List.length_singleton]
    refine ⟨?_, ?_, fun k hk => ?_⟩
    · split
      · rw [List.pairwise_append]
        exact ⟨g1, by simp, fun a ha b hb => by rw [List.mem_singleton.mp hb]; exact g2 a ha⟩
      · exact g1
    · intro k hk
      split at hk
      · rcases List.mem_append.mp hk with hk | hk
        · have := g2 k hk; omega
        · rw [List.mem_singleton.mp hk]; omega
      · have := g2 k hk; omega
    · by_cases e : k < (sSh S).length
      · rw [zg_apl e]
        obtain ⟨f1, f2⟩ := g3 k e
        refine ⟨f1.trans ?_, f2⟩
        split
        · constructor
          · intro q; exact List.mem_append_left _ q
          · intro q
            rcases List.mem_append.mp q with q | q
            · exact q
            · have := List.mem_singleton.mp q; omega
        · exact Iff.rfl
      · have e2 : k = (sSh S).length := by omega
        subst e2
        rw [zg_last]
        refine ⟨?_, fun q => zcal_ge q⟩
        show zcal S c s d = true ↔ _
        constructor
        · intro q
          rw [if_pos q]
          simp
        · intro q
          split at q
          · rename_i q2; exact q2
          · have := g2 _ q; omega
  · show (sSh S ++ [_]).length ≤ 40
    rw [List.length_append]; simp only [List.length_singleton]; omega
  · intro r hr
    have hr : r ∈ sSh S ++ [(c, s, p, sGen S s + 1, sSc S 1, if zmask (zcal S c s) = 0 then sSc S 1 else -nI 1, zcal S c s)] := hr
    rcases List.mem_append.mp hr with hr | hr
    · exact h8 r hr
    · rw [List.mem_singleton.mp hr]
      have := h10 s hs
      refine ⟨hc, hs, hp, by show sGen S s + 1 ≤ 40; omega, ?_⟩
      show (if zmask (zcal S c s) = 0 then sSc S 1 else -nI 1) = -nI 1 ↔ ∃ d, d < 4 ∧ zcal S c s d = true
      by_cases ez : zmask (zcal S c s) = 0
      · rw [if_pos ez]
        exact ⟨fun q => absurd q htn, fun q => absurd ez (zmask_n0.mpr q)⟩
      · rw [if_neg ez]
        exact ⟨fun _ => zmask_n0.mp ez, fun _ => rfl⟩
  · show ∀ i j, i < (sSh S ++ [(c, s, p, sGen S s + 1, sSc S 1, if zmask (zcal S c s) = 0 then sSc S 1 else -nI 1, zcal S c s)]).length → j < (sSh S ++ [(c, s, p, sGen S s + 1, sSc S 1, if zmask (zcal S c s) = 0 then sSc S 1 else -nI 1, zcal S c s)]).length → (zg (sSh S ++ [(c, s, p, sGen S s + 1, sSc S 1, if zmask (zcal S c s) = 0 then sSc S 1 else -nI 1, zcal S c s)]) i zs0).1 = (zg (sSh S ++ [(c, s, p, sGen S s + 1, sSc S 1, if zmask (zcal S c s) = 0 then sSc S 1 else -nI 1, zcal S c s)]) j zs0).1 → (zg (sSh S ++ [(c, s, p, sGen S s + 1, sSc S 1, if zmask (zcal S c s) = 0 then sSc S 1 else -nI 1, zcal S c s)]) i zs0).2.2.2.2.2.1 = -nI 1 → (zg (sSh S ++ [(c, s, p, sGen S s + 1, sSc S 1, if zmask (zcal S c s) = 0 then sSc S 1 else -nI 1, zcal S c s)]) j zs0).2.2.2.2.2.1 = -nI 1 → i = j
    generalize hr : (c, s, p, sGen S s + 1, sSc S 1, if zmask (zcal S c s) = 0 then sSc S 1 else -nI 1, zcal S c s) = r
    have hr1 : r.1 = c := by rw [← hr]
    intro i j hi hj
    rw [List.length_append] at hi hj
    simp only [List.length_singleton] at hi hj
    by_cases ei : i < (sSh S).length
    · rw [zg_apl ei]
      by_cases ej : j < (sSh S).length
      · rw [zg_apl ej]
        exact h9 i j ei ej
      · have e2 : j = (sSh S).length := by omega
        subst e2
        rw [zg_last]
        intro q1 q2 _
        exact absurd ⟨q1.trans hr1, q2⟩ (hno i ei)
    · have e1 : i = (sSh S).length := by omega
      subst e1
      rw [zg_last]
      by_cases ej : j < (sSh S).length
      · rw [zg_apl ej]
        intro q1 _ q3
        exact absurd ⟨q1.symm.trans hr1, q3⟩ (hno j ej)
      · intro _ _ _; omega
  · intro s' hs'
    show va_up (sGen S) s (sGen S s + 1) s' ≤ (sSh S ++ [_]).length
    rw [List.length_append]
    simp only [List.length_singleton]
    have := h10 s' hs'
    unfold va_up
    split
    · rename_i e; subst e; omega
    · omega
  · intro c' s' hc' hs'
    show va_up (sFg S) (c * 3 + s) (sGen S s + 1) (c' * 3 + s') ≤ va_up (sGen S) s (sGen S s + 1) s'
    have := h11 c' s' hc' hs'
    unfold va_up
    split
    · rename_i e
      rw [if_pos (by omega)]
      exact Nat.le_refl _
    · split
      · rename_i e; subst e; omega
      · exact this
  · intro k hk
    have hk : k < (sSh S ++ [(c, s, p, sGen S s + 1, sSc S 1, if zmask (zcal S c s) = 0 then sSc S 1 else -nI 1, zcal S c s)]).length := hk
    rw [List.length_append] at hk
    simp only [List.length_singleton] at hk
    show (zg (sSh S ++ [(c, s, p, sGen S s + 1, sSc S 1, if zmask (zcal S c s) = 0 then sSc S 1 else -nI 1, zcal S c s)]) k zs0).2.2.2.1 ≤ va_up (sGen S) s (sGen S s + 1) (zg (sSh S ++ [(c, s, p, sGen S s + 1, sSc S 1, if zmask (zcal S c s) = 0 then sSc S 1 else -nI 1, zcal S c s)]) k zs0).2.1
    by_cases e : k < (sSh S).length
    · rw [zg_apl e]
      have := h12 k e
      unfold va_up
      split
      · rename_i e2; rw [e2] at this; omega
      · exact this
    · have e2 : k = (sSh S).length := by omega
      subst e2
      rw [zg_last]
      show sGen S s + 1 ≤ va_up (sGen S) s (sGen S s + 1) s
      rw [va_up_self]
      exact Nat.le_refl _
