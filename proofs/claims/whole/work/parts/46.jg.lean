/-! the class starts again -/
theorem X_fill {b : Bool} {d : Nat} {Q : zQ} {σ : zV} {a n : Nat} {v : Int32} (ha : (zUn b)[a]? = some (.inl (false, n))) (hn : n < 2 ^ 30) (hQ : ∀ σ', zoff [a] σ σ' → (∀ i, i < n → σ' a i = v) → Q none σ') : zCall (zUn b) (d + 1) yJ7_fill_53178 [.ref a, .int v] σ Q := by
  have loop : ∀ m j σ', m + j = n → zoff [a] σ σ' → (∀ i, i < j → σ' a i = v) → eJ7_fill_53178 b d Q 5 [.ref a, .int v, .int (nI j), .int (nI n)] [] σ' := by
    intro m
    induction m with
    | zero =>
      intro j σ' hj o hv
      rw [eJ7_fill_53178_5, eJ7_fill_53178_6, eJ7_fill_53178_7, eJ7_fill_53178_20, show j = n by omega]
      exact ⟨fun _ => hQ σ' o (fun i hi => hv i (by omega)), fun q => absurd (Int32.le_refl _) q⟩
    | succ m ih =>
      intro j σ' hj o hv
      rw [eJ7_fill_53178_5, eJ7_fill_53178_6, eJ7_fill_53178_7, eJ7_fill_53178_10, eJ7_fill_53178_11, eJ7_fill_53178_12, eJ7_fill_53178_13 ha, eJ7_fill_53178_14, eJ7_fill_53178_17]
      refine ⟨fun q => ?_, fun _ => ⟨by rw [vp_inE (by omega)]; omega, ?_⟩⟩
      · rw [nI_leE (by omega) (by omega)] at q
        omega
      · have i := ih (j + 1) (zput σ' a j v) (by omega) (zoff_tr o (zoff_put (by simp))) (fun i hi => by
          rw [zput_in]
          split
          · rfl
          · exact hv i (by omega))
        rw [nI_clamp (by omega)]
        rw [← nI_add] at i
        exact i
  rw [nJ7_fill_53178, eJ7_fill_53178_0, eJ7_fill_53178_1, eJ7_fill_53178_2, eJ7_fill_53178_3 ha, eJ7_fill_53178_4]
  exact loop n 0 σ rfl zoff_rf (fun i hi => absurd hi (by omega))
