/-! the model: calls taken -/
theorem M_und_loop {d : Nat} {Q : zQ} {σ : zV} {sh : List zSh} {c : Nat} (hS : MS sh σ) (hl : sh.length ≤ 40) (hb : ∀ r ∈ sh, r.1 < 4) (hc : c < 4) (hQ : Q (some (.int (zund sh c))) σ) :
    ∀ n k, n + k = sh.length → (∀ j, j < k → (decide ((zg sh j zs0).1 = c) && decide ((zg sh j zs0).2.2.2.2.2.1 = -nI 1)) = false) → eX6_shootOf d Q 2 [.ref 28, .int (nI c), .int (nI k)] [] σ := by
  obtain ⟨h1, h2⟩ := hS
  intro n
  induction n with
  | zero =>
    intro k hk hj
    have e : zund sh c = -nI 1 := by
      unfold zund
      rw [zfst_none (fun j hjl => hj j (by omega))]
      rfl
    rw [e] at hQ
    rw [bX6_shootOf_2]
    simp (disch := omega) only [nI_add, pk_mul, pk_sub, nI_clamp, nI_ltE, nI_leE, nI_eqE, nI_m, nI_m', nI_lt0, vp_inE, Nat.not_lt_zero, zc3, zc4, zc5, zc16, zc20, zc40, true_implies, false_implies, not_true_eq_false, not_false_eq_true, true_and, and_true, eq_self, implies_true, z_toL, z_toN, List.cons_append, List.nil_append, h1]
    refine ⟨fun _ => hQ, fun q => absurd (by omega) q⟩
  | succ n ih =>
    intro k hk hj
    obtain ⟨g1, g2, g3, g4, g5, g6, g7⟩ := h2 k (by omega)
    have hbk := hb _ (zg_mem (x := zs0) (show k < sh.length by omega))
    have hnx : (decide ((zg sh k zs0).1 = c) && decide ((zg sh k zs0).2.2.2.2.2.1 = -nI 1)) = false → eX6_shootOf d Q 2 [.ref 28, .int (nI c), .int (nI (k + 1))] [] σ := fun q => ih (k + 1) (by omega) (fun j hjk => by
      rcases Nat.lt_or_ge j k with z | z
      · exact hj j z
      · rw [show j = k by omega]; exact q)
    rw [bX6_shootOf_2]
    simp (disch := omega) only [nI_add, pk_mul, pk_sub, nI_clamp, nI_ltE, nI_leE, nI_eqE, nI_m, nI_m', nI_lt0, vp_inE, Nat.not_lt_zero, zc3, zc4, zc5, zc16, zc20, zc40, true_implies, false_implies, not_true_eq_false, not_false_eq_true, true_and, and_true, eq_self, implies_true, z_toL, z_toN, List.cons_append, List.nil_append, h1, g1, g6]
    refine ⟨fun q => absurd q (by omega), fun _ => ⟨by omega, fun q => hnx (by rw [decide_eq_false q]; rfl), fun q => ⟨by omega, fun q2 => hnx (by rw [decide_eq_false q2]; simp), fun q2 => ?_⟩⟩⟩
    have e : zund sh c = nI k := by
      unfold zund
      rw [zfst_some hj (by omega) (by rw [decide_eq_true q, decide_eq_true q2]; rfl)]
      rfl
    rw [e] at hQ
    exact hQ
theorem M_und {d : Nat} {Q : zQ} {σ : zV} {sh : List zSh} {c : Nat} (hS : MS sh σ) (hl : sh.length ≤ 40) (hb : ∀ r ∈ sh, r.1 < 4) (hc : c < 4) (hQ : Q (some (.int (zund sh c))) σ) : zCall (zUn true) (d + 1) yX6_shootOf [.ref 28, .int (nI c)] σ Q := by
  rw [nX6_shootOf, bX6_shootOf_0]
  exact M_und_loop hS hl hb hc hQ sh.length 0 rfl (fun j h => absurd h (by omega))
def zany (w : Nat → Bool) : Nat → Bool
  | 0 => false
  | i + 1 => zany w i || w i
theorem zany_4 {w : Nat → Bool} : (zany w 4 = false) = (zmask w = 0) := by
  refine propext ?_
  rw [zmask_0]
  simp only [zany, Bool.false_or, Bool.or_eq_false_iff]
  constructor
  · rintro ⟨⟨⟨h0, h1⟩, h2⟩, h3⟩ c hc
    match c, hc with
    | 0, _ => exact h0
    | 1, _ => exact h1
    | 2, _ => exact h2
    | 3, _ => exact h3
  · intro h
    exact ⟨⟨⟨h 0 (by omega), h 1 (by omega)⟩, h 2 (by omega)⟩, h 3 (by omega)⟩
theorem zb_0 {x : Bool} : (zb x = nI 0) = (x = false) := by cases x <;> simp [zb, z_10]
theorem M_settle {d : Nat} {Q : zQ} {σ : zV} {k : Nat} {w : Nat → Bool} (hk : k < 40) (hw : ∀ c, c < 4 → σ 47 (k * 4 + c) = zb (w c)) (h1 : zmask w ≠ 0 → Q none σ) (h2 : zmask w = 0 → σ 46 k = -nI 1 ∧ Q none (zput σ 46 k (σ 28 1))) : zCall (zUn true) (d + 1) yX6_settle [.ref 28, .int (nI k)] σ Q := by
  have loop : ∀ n i, n + i = 4 → eX6_settle d Q 4 [.ref 28, .int (nI k), .int (zb (zany w i)), .int (nI i)] [] σ := by
    intro n
    induction n with
    | zero =>
      intro i hi
      have hi : i = 4 := by omega
      subst hi
      rw [bX6_settle_4]
      simp (disch := omega) only [nI_add, pk_mul, pk_sub, nI_clamp, nI_ltE, nI_leE, nI_eqE, nI_m, nI_m', nI_lt0, vp_inE, Nat.not_lt_zero, zc3, zc4, zc5, zc16, zc20, zc40, true_implies, false_implies, not_true_eq_false, not_false_eq_true, true_and, and_true, eq_self, implies_true, z_toL, z_toN, List.cons_append, List.nil_append, zb_0, zany_4, Nat.le_refl]
      exact ⟨fun q => h1 q, fun q => ⟨hk, fun q2 => absurd (h2 q).1 q2, fun q2 => ⟨hk, (h2 q).2⟩⟩⟩
    | succ n ih =>
      intro i hi
      have hwi := hw i (by omega)
      have hn := ih (i + 1) (by omega)
      rw [bX6_settle_4]
      simp (disch := omega) only [nI_add, pk_mul, pk_sub, nI_clamp, nI_ltE, nI_leE, nI_eqE, nI_m, nI_m', nI_lt0, vp_inE, Nat.not_lt_zero, zc3, zc4, zc5, zc16, zc20, zc40, true_implies, false_implies, not_true_eq_false, not_false_eq_true, true_and, and_true, eq_self, implies_true, z_toL, z_toN, List.cons_append, List.nil_append, zb_0, hwi]
      refine ⟨fun q => absurd q (by omega), fun _ => ⟨fun q => ?_, fun q => ⟨by omega, fun q2 => ?_, fun q2 => ?_⟩⟩⟩
      · have e : zany w (i + 1) = true := by
          show (zany w i || w i) = true
          cases ea : zany w i
          · exact absurd ea q
          · rfl
        rw [e] at hn
        exact hn
      · have e : zany w (i + 1) = false := by
          show (zany w i || w i) = false
          rw [q, q2]; rfl
        rw [e] at hn
        exact hn
      · have e : zany w (i + 1) = true := by
          show (zany w i || w i) = true
          cases ea : w i
          · exact absurd ea q2
          · simp
        rw [e] at hn
        exact hn
  rw [nX6_settle, bX6_settle_0]
  exact loop 4 0 rfl
theorem MS_wait {sh : List zSh} {σ σ' : zV} {k c : Nat} {t : Int32} (h : MS sh σ) (hk : k < sh.length) (hc : c < 4) (o : zoff [46, 47] σ σ')
    (h47 : ∀ i, σ' 47 i = if i = k * 4 + c then nI 0 else σ 47 i) (h46 : ∀ i, σ' 46 i = if i = k then (zshT t c (zg sh k zs0)).2.2.2.2.2.1 else σ 46 i) : MS (sh.set k (zshT t c (zg sh k zs0))) σ' := by
  obtain ⟨h1, h2⟩ := h
  refine ⟨by rw [o 28 (by simp), List.length_set]; exact h1, fun j hj => ?_⟩
  rw [List.length_set] at hj
  rw [zg_set hk hj]
  obtain ⟨g1, g2, g3, g4, g5, g6, g7⟩ := h2 j hj
  unfold MSr
  rw [o 41 (by simp), o 42 (by simp), o 43 (by simp), o 44 (by simp), o 45 (by simp), h46]
  by_cases e : j = k
  · subst e
    rw [if_pos rfl, if_pos rfl]
    refine ⟨g1, g2, g3, g4, g5, rfl, fun c' hc' => ?_⟩
    rw [h47]
    show _ = zb (va_up (zg sh j zs0).2.2.2.2.2.2 c false c')
    unfold va_up
    by_cases e2 : c' = c
    · subst e2; rw [if_pos rfl, if_pos rfl]; rfl
    · rw [if_neg e2, if_neg (by omega)]; exact g7 c' hc'
  · rw [if_neg e, if_neg e]
    refine ⟨g1, g2, g3, g4, g5, g6, fun c' hc' => ?_⟩
    rw [h47, if_neg (by omega)]
    exact g7 c' hc'
