/-! the digest, the class: all of it -/
theorem X_entry1 {b : Bool} {d : Nat} {Q : zQ} {S : zSt} {σ : zV} {s p n : Nat} (h : RX S σ) (hI : zI n S) (hs : s < 3) (hp : p < 16) (hQ : Q (some (.int (zt (zlast (sHi S (s * 16 + p)))))) σ) : zCall (zUn b) (d + 4) yX5_entry [.ref 0, .int (nI s), .int (nI p)] σ Q := by
  obtain ⟨a1, a2, a3, a4, a5⟩ := zX_now h hI hs hp
  rw [nX5_entry, bX5_entry_0]
  simp (disch := omega) only [nI_add, pk_mul, pk_sub, nI_clamp, nI_ltE, nI_leE, nI_eqE, nI_m, nI_m', nI_lt0, vp_inE, Nat.not_lt_zero, zc3, zc4, zc5, zc16, zc20, zc40, Nat.one_ne_zero, Bool.true_eq_false, Bool.false_eq_true, true_implies, false_implies, not_true_eq_false, not_false_eq_true, true_and, and_true, eq_self, implies_true, z_toL, z_toN, List.cons_append, List.nil_append, a1, a4]
  exact ⟨fun q => absurd q (by omega), fun _ => ⟨fun q => absurd q (by omega), fun _ => ⟨by omega, by omega, hQ⟩⟩⟩
theorem X_digest {b : Bool} {d : Nat} {Q : zQ} {S : zSt} {σ : zV} {n : Nat} (h : RX S σ) (hI : zI n S) (hQ : Q (some (.long (fD S))) σ) : zCall (zUn b) (d + 7) yX5_digest [.ref 0] σ Q := by
  have hnc := hI.1.1.2
  have hnc1 := hI.1.1.1
  have hl := hI.1.2.2.2.2.2.2.1.1
  have k5 : σ 0 5 = nI (sNc S) := h.1
  have k6 : σ 0 6 = sSc S 1 := h.2.1.1
  have k20 : σ 20 0 = nI (sSh S).length := h.2.2.2.2.2.2.2.2.1.1
  have l5 : ∀ k, k < (sSh S).length → (∀ v4 : Value, v4.category = 1 → eX5_digest b (d + 6) Q 73 [.ref 0, .long (fS S (k + 1)), .null, .int (nI (k + 1)), v4] [] σ) → ∀ m w, m + w = 8 → eX5_digest b (d + 6) Q 87 [.ref 0, .long (fS1 (fS S k) S k w), .null, .int (nI k), .int (nI w)] [] σ := by
    intro k hk nx m
    induction m with
    | zero =>
      intro w hw
      rw [bX5_digest_87, show w = 8 by omega, nI_add]
      exact ⟨fun _ => nx _ rfl, fun q => absurd (Int32.le_refl _) q⟩
    | succ m ih =>
      intro w hw
      have nle : ¬ nI 8 ≤ nI w := by rw [nI_leE (by omega) (by omega)]; omega
      rw [bX5_digest_87]
      refine ⟨fun q => absurd q nle, fun _ => X_shoot (d := d + 4) h hI hk (by omega) ?_⟩
      simp only [z_toL, List.cons_append, List.nil_append]
      rw [bX5_digest_106, nI_add]
      exact ih (w + 1) (by omega)
  have l4 : ∀ m k (v4 : Value), v4.category = 1 → m + k = (sSh S).length → eX5_digest b (d + 6) Q 73 [.ref 0, .long (fS S k), .null, .int (nI k), v4] [] σ := by
    intro m
    induction m with
    | zero =>
      intro k v4 hv hk
      rw [bX5_digest_73 hv, k20, k6, show k = (sSh S).length by omega]
      exact ⟨fun _ => hQ, fun q => absurd (Int32.le_refl _) q⟩
    | succ m ih =>
      intro k v4 hv hk
      have nle : ¬ nI (sSh S).length ≤ nI k := by rw [nI_leE (by omega) (by omega)]; omega
      rw [bX5_digest_73 hv, k20, k6]
      exact ⟨fun q => absurd q nle, fun _ => l5 k (by omega) (fun v4 hv => ih (k + 1) v4 hv (by omega)) 8 0 rfl⟩
  have l3 : ∀ m c (v4 : Value), v4.category = 1 → m + c = sNc S → eX5_digest b (d + 6) Q 50 [.ref 0, .long (fCs S c), .null, .int (nI c), v4] [] σ := by
    intro m
    induction m with
    | zero =>
      intro c v4 hv hc
      rw [bX5_digest_50 hv, k5, show c = sNc S by omega]
      exact ⟨fun _ => l4 _ 0 v4 hv rfl, fun q => absurd (Int32.le_refl _) q⟩
    | succ m ih =>
      intro c v4 hv hc
      have nle : ¬ nI (sNc S) ≤ nI c := by rw [nI_leE (by omega) (by omega)]; omega
      rw [bX5_digest_50 hv, k5]
      refine ⟨fun q => absurd q nle, fun _ => X_dcore (d := d) h hI (by omega) ?_⟩
      simp only [z_toL, List.cons_append, List.nil_append]
      rw [bX5_digest_64 hv, nI_add]
      exact ih (c + 1) v4 hv (by omega)
  have l2 : ∀ s, s < 3 → (∀ v4 : Value, v4.category = 1 → eX5_digest b (d + 6) Q 6 [.ref 0, .long (fE S ((s + 1) * 16)), .null, .int (nI (s + 1)), v4] [] σ) → ∀ m p, m + p = 16 → eX5_digest b (d + 6) Q 14 [.ref 0, .long (fE S (s * 16 + p)), .null, .int (nI s), .int (nI p)] [] σ := by
    intro s hs nx m
    induction m with
    | zero =>
      intro p hp
      have nx := nx (.int (nI 16)) rfl
      rw [show (s + 1) * 16 = s * 16 + 16 by omega] at nx
      rw [bX5_digest_14, show p = 16 by omega, nI_add]
      exact ⟨fun _ => nx, fun q => absurd (Int32.le_refl _) q⟩
    | succ m ih =>
      intro p hp
      have nle : ¬ nI 16 ≤ nI p := by rw [nI_leE (by omega) (by omega)]; omega
      rw [bX5_digest_14]
      refine ⟨fun q => absurd q nle, fun _ => X_entry1 (d := d + 2) h hI hs (by omega) ?_⟩
      simp only [z_toL, List.cons_append, List.nil_append]
      rw [bX5_digest_33, nI_add]
      exact ih (p + 1) (by omega)
  have l1 : ∀ m s (v4 : Value), v4.category = 1 → m + s = 3 → eX5_digest b (d + 6) Q 6 [.ref 0, .long (fE S (s * 16)), .null, .int (nI s), v4] [] σ := by
    intro m
    induction m with
    | zero =>
      intro s v4 hv hs
      rw [bX5_digest_6 hv, show s = 3 by omega]
      exact ⟨fun _ => l3 _ 0 v4 hv rfl, fun q => absurd (Int32.le_refl _) q⟩
    | succ m ih =>
      intro s v4 hv hs
      have nle : ¬ nI 3 ≤ nI s := by rw [nI_leE (by omega) (by omega)]; omega
      rw [bX5_digest_6 hv]
      exact ⟨fun q => absurd q nle, fun _ => l2 s (by omega) (fun v4 hv => ih (s + 1) v4 hv (by omega)) 16 0 rfl⟩
  rw [nX5_digest, bX5_digest_0]
  exact l1 3 0 .null rfl rfl
