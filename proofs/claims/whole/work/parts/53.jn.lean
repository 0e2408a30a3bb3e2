/-! the digest, the class -/
def fE (S : zSt) : Nat → Int64
  | 0 => 67
  | i + 1 => 31 * fE S i + (zt (zlast (sHi S i))).toInt64
def fC (h : Int64) (S : zSt) (c : Nat) : Nat → Int64
  | 0 => h
  | w + 1 => 31 * fC h S c w + (zcoA S c w).toInt64
def fN1 (h : Int64) (S : zSt) (c k : Nat) : Nat → Int64
  | 0 => h
  | w + 1 => 31 * fN1 h S c k w + (znoA S c k w).toInt64
def fN (h : Int64) (S : zSt) (c : Nat) : Nat → Int64
  | 0 => h
  | k + 1 => fN1 (fN h S c k) S c k 6
def fCs (S : zSt) : Nat → Int64
  | 0 => fE S 48
  | c + 1 => fN (fC (fCs S c) S c 7) S c (sNo S c).length
def fS1 (h : Int64) (S : zSt) (k : Nat) : Nat → Int64
  | 0 => h
  | w + 1 => 31 * fS1 h S k w + (zshA (zg (sSh S) k zs0) w).toInt64
def fS (S : zSt) : Nat → Int64
  | 0 => fCs S (sNc S)
  | k + 1 => fS1 (fS S k) S k 8
def fD (S : zSt) : Int64 := 31 * fS S (sSh S).length + (sSc S 1).toInt64
theorem X_dcore {b : Bool} {d : Nat} {Q : zQ} {S : zSt} {σ : zV} {c n : Nat} {h0 : Int64} (h : RX S σ) (hI : zI n S) (hc : c < sNc S) (hQ : Q (some (.long (fN (fC h0 S c 7) S c (sNo S c).length))) σ) : zCall (zUn b) (d + 6) yX5_digestOfCore [.ref 0, .long h0, .int (nI c)] σ Q := by
  have hnc := hI.1.1.2
  have hlen := (hI.1.2.2.2.2.1 c (by omega)).1
  have x12 := (h.2.2.2.2.2.2.1 c (by omega)).1
  have in4 : vp_in (nI c) 4 := by rw [vp_inE (by omega)]; omega
  have hcl : (nI c).toNatClampNeg = c := nI_clamp (by omega)
  -- one note's numbers
  have l3 : ∀ k, k < (sNo S c).length → (∀ v7 : Value, v7.category = 1 → eX5_digestOfCore b (d + 5) Q 39 [.ref 0, .long h0, .null, .int (nI c), .long (fN (fC h0 S c 7) S c (k + 1)), .null, .int (nI (k + 1)), v7] [] σ) → ∀ m w, m + w = 6 → eX5_digestOfCore b (d + 5) Q 56 [.ref 0, .long h0, .null, .int (nI c), .long (fN1 (fN (fC h0 S c 7) S c k) S c k w), .null, .int (nI k), .int (nI w)] [] σ := by
    intro k hk nx m
    induction m with
    | zero =>
      intro w hw
      rw [bX5_digestOfCore_56, show w = 6 by omega, nI_add]
      exact ⟨fun _ => nx _ rfl, fun q => absurd (Int32.le_refl _) q⟩
    | succ m ih =>
      intro w hw
      have nle : ¬ nI 6 ≤ nI w := by rw [nI_leE (by omega) (by omega)]; omega
      rw [bX5_digestOfCore_56]
      refine ⟨fun q => absurd q nle, fun _ => X_note1 (d := d) h hI hc hk (by omega) ?_⟩
      simp only [z_toL, List.cons_append, List.nil_append]
      rw [bX5_digestOfCore_78, nI_add]
      exact ih (w + 1) (by omega)
  have l2 : ∀ m k (v7 : Value), v7.category = 1 → m + k = (sNo S c).length → eX5_digestOfCore b (d + 5) Q 39 [.ref 0, .long h0, .null, .int (nI c), .long (fN (fC h0 S c 7) S c k), .null, .int (nI k), v7] [] σ := by
    intro m
    induction m with
    | zero =>
      intro k v7 hv hk
      rw [bX5_digestOfCore_39 hv, hcl, x12, show k = (sNo S c).length by omega]
      exact ⟨in4, fun _ => hQ, fun q => absurd (Int32.le_refl _) q⟩
    | succ m ih =>
      intro k v7 hv hk
      have nle : ¬ nI (sNo S c).length ≤ nI k := by rw [nI_leE (by omega) (by omega)]; omega
      rw [bX5_digestOfCore_39 hv, hcl, x12]
      exact ⟨in4, fun q => absurd q nle, fun _ => l3 k (by omega) (fun v7 hv => ih (k + 1) v7 hv (by omega)) 6 0 rfl⟩
  have l1 : ∀ m w, m + w = 7 → eX5_digestOfCore b (d + 5) Q 6 [.ref 0, .long h0, .null, .int (nI c), .long (fC h0 S c w), .null, .int (nI w), .null] [] σ := by
    intro m
    induction m with
    | zero =>
      intro w hw
      rw [bX5_digestOfCore_6, show w = 7 by omega]
      exact ⟨fun _ => l2 _ 0 .null rfl rfl, fun q => absurd (Int32.le_refl _) q⟩
    | succ m ih =>
      intro w hw
      have nle : ¬ nI 7 ≤ nI w := by rw [nI_leE (by omega) (by omega)]; omega
      rw [bX5_digestOfCore_6]
      refine ⟨fun q => absurd q nle, fun _ => X_core1 (d := d + 3) h hI hc (by omega) ?_⟩
      simp only [z_toL, List.cons_append, List.nil_append]
      rw [bX5_digestOfCore_26, nI_add]
      exact ih (w + 1) (by omega)
  rw [nX5_digestOfCore, bX5_digestOfCore_0]
  exact l1 7 0 rfl
