/-! the class: calls taken -/
def zm4 (a b c d : Bool) : Nat := (if a = true then 1 else 0) + (if b = true then 2 else 0) + (if c = true then 4 else 0) + (if d = true then 8 else 0)
theorem zmask_off {w : Nat → Bool} {c : Nat} (hc : c < 4) : nI (zmask w) &&& ((nI 1 <<< (nI c &&& nI 31)) ^^^ -nI 1) = nI (zmask (va_up w c false)) := by
  have k0 : ∀ a b c d : Bool, nI (zm4 a b c d) &&& ((nI 1 <<< (nI 0 &&& nI 31)) ^^^ -nI 1) = nI (zm4 false b c d) := by intro a b c d; cases a <;> cases b <;> cases c <;> cases d <;> decide +kernel
  have k1 : ∀ a b c d : Bool, nI (zm4 a b c d) &&& ((nI 1 <<< (nI 1 &&& nI 31)) ^^^ -nI 1) = nI (zm4 a false c d) := by intro a b c d; cases a <;> cases b <;> cases c <;> cases d <;> decide +kernel
  have k2 : ∀ a b c d : Bool, nI (zm4 a b c d) &&& ((nI 1 <<< (nI 2 &&& nI 31)) ^^^ -nI 1) = nI (zm4 a b false d) := by intro a b c d; cases a <;> cases b <;> cases c <;> cases d <;> decide +kernel
  have k3 : ∀ a b c d : Bool, nI (zm4 a b c d) &&& ((nI 1 <<< (nI 3 &&& nI 31)) ^^^ -nI 1) = nI (zm4 a b c false) := by intro a b c d; cases a <;> cases b <;> cases c <;> cases d <;> decide +kernel
  match c, hc with
  | 0, _ => exact k0 (w 0) (w 1) (w 2) (w 3)
  | 1, _ => exact k1 (w 0) (w 1) (w 2) (w 3)
  | 2, _ => exact k2 (w 0) (w 1) (w 2) (w 3)
  | 3, _ => exact k3 (w 0) (w 1) (w 2) (w 3)
theorem zmask_on {w : Nat → Bool} {c : Nat} (hc : c < 4) : nI (zmask w) ||| (nI 1 <<< (nI c &&& nI 31)) = nI (zmask (va_up w c true)) := by
  have k0 : ∀ a b c d : Bool, nI (zm4 a b c d) ||| (nI 1 <<< (nI 0 &&& nI 31)) = nI (zm4 true b c d) := by intro a b c d; cases a <;> cases b <;> cases c <;> cases d <;> decide +kernel
  have k1 : ∀ a b c d : Bool, nI (zm4 a b c d) ||| (nI 1 <<< (nI 1 &&& nI 31)) = nI (zm4 a true c d) := by intro a b c d; cases a <;> cases b <;> cases c <;> cases d <;> decide +kernel
  have k2 : ∀ a b c d : Bool, nI (zm4 a b c d) ||| (nI 1 <<< (nI 2 &&& nI 31)) = nI (zm4 a b true d) := by intro a b c d; cases a <;> cases b <;> cases c <;> cases d <;> decide +kernel
  have k3 : ∀ a b c d : Bool, nI (zm4 a b c d) ||| (nI 1 <<< (nI 3 &&& nI 31)) = nI (zm4 a b c true) := by intro a b c d; cases a <;> cases b <;> cases c <;> cases d <;> decide +kernel
  match c, hc with
  | 0, _ => exact k0 (w 0) (w 1) (w 2) (w 3)
  | 1, _ => exact k1 (w 0) (w 1) (w 2) (w 3)
  | 2, _ => exact k2 (w 0) (w 1) (w 2) (w 3)
  | 3, _ => exact k3 (w 0) (w 1) (w 2) (w 3)
theorem zmask_and {w : Nat → Bool} {c : Nat} (hc : c < 4) : (nI (zmask w) &&& (nI 1 <<< (nI c &&& nI 31)) = nI 0) = (w c = false) := by
  have k0 : ∀ a b c d : Bool, (nI (zm4 a b c d) &&& (nI 1 <<< (nI 0 &&& nI 31)) = nI 0) = (a = false) := by intro a b c d; cases a <;> cases b <;> cases c <;> cases d <;> first | exact eq_true (by decide +kernel) ▸ (eq_true rfl).symm ▸ rfl | exact propext (by decide +kernel)
  have k1 : ∀ a b c d : Bool, (nI (zm4 a b c d) &&& (nI 1 <<< (nI 1 &&& nI 31)) = nI 0) = (b = false) := by intro a b c d; cases a <;> cases b <;> cases c <;> cases d <;> exact propext (by decide +kernel)
  have k2 : ∀ a b c d : Bool, (nI (zm4 a b c d) &&& (nI 1 <<< (nI 2 &&& nI 31)) = nI 0) = (c = false) := by intro a b c d; cases a <;> cases b <;> cases c <;> cases d <;> exact propext (by decide +kernel)
  have k3 : ∀ a b c d : Bool, (nI (zm4 a b c d) &&& (nI 1 <<< (nI 3 &&& nI 31)) = nI 0) = (d = false) := by intro a b c d; cases a <;> cases b <;> cases c <;> cases d <;> exact propext (by decide +kernel)
  match c, hc with
  | 0, _ => exact k0 (w 0) (w 1) (w 2) (w 3)
  | 1, _ => exact k1 (w 0) (w 1) (w 2) (w 3)
  | 2, _ => exact k2 (w 0) (w 1) (w 2) (w 3)
  | 3, _ => exact k3 (w 0) (w 1) (w 2) (w 3)
theorem zfst_congr {p q : Nat → Bool} {n : Nat} (h : ∀ j, j < n → p j = q j) : zfst p n = zfst q n := by
  rcases zfst_of (p := q) (n := n) with ⟨h1, h2⟩ | ⟨k, h1, h2, h3, h4⟩
  · rw [h1]
    exact zfst_none (fun j hj => (h j hj).trans (h2 j hj))
  · rw [h1]
    exact zfst_some (fun j hj => (h j (by omega)).trans (h4 j hj)) h2 ((h k h2).trans h3)
theorem zund_congr {sh sh' : List zSh} {c : Nat} (hl : sh'.length = sh.length) (h : ∀ j, j < sh.length → (((zg sh' j zs0).1 = c ∧ (zg sh' j zs0).2.2.2.2.2.1 = -nI 1) ↔ ((zg sh j zs0).1 = c ∧ (zg sh j zs0).2.2.2.2.2.1 = -nI 1))) : zund sh' c = zund sh c := by
  unfold zund
  rw [hl]
  congr 1
  refine zfst_congr (fun j hj => ?_)
  rw [← Bool.decide_and, ← Bool.decide_and]
  exact decide_eq_decide.mpr (h j hj)
theorem zund_none {sh : List zSh} {c : Nat} (h : ∀ j, j < sh.length → ¬ ((zg sh j zs0).1 = c ∧ (zg sh j zs0).2.2.2.2.2.1 = -nI 1)) : zund sh c = -nI 1 := by
  unfold zund
  rw [zfst_none]
  · rfl
  · intro j hj
    rw [← Bool.decide_and]
    exact decide_eq_false (h j hj)
/-- shoot k waits for core c no more: the class's rows -/
theorem X_wait0 {S : zSt} {σ : zV} {k c n : Nat} (h : RX S σ) (hT : zIT n (sSc S)) (hS : zIS (sNc S) (sSh S)) (hn : n < 2 ^ 30) (hc : c < 4) (hk : k < (sSh S).length) (hw : (zg (sSh S) k zs0).2.2.2.2.2.2 c = true) :
    (zmask (va_up (zg (sSh S) k zs0).2.2.2.2.2.2 c false) ≠ 0 → RX (sWait k c S) (zput σ 27 k (nI (zmask (va_up (zg (sSh S) k zs0).2.2.2.2.2.2 c false))))) ∧
    (zmask (va_up (zg (sSh S) k zs0).2.2.2.2.2.2 c false) = 0 → RX (sWait k c S) (zput (zput (zput σ 27 k (nI (zmask (va_up (zg (sSh S) k zs0).2.2.2.2.2.2 c false)))) 26 k (sSc S 1)) 9 (zg (sSh S) k zs0).1 (-nI 1))) := by
  obtain ⟨r1, r2, r3, r4, r5, r6, r7, r8, ⟨r9, r9'⟩, r10⟩ := h
  obtain ⟨tm, i2, i2'⟩ := hT
  obtain ⟨i7, i8, i9⟩ := hS
  have hdn : (zg (sSh S) k zs0).2.2.2.2.2.1 = -nI 1 := (i8 _ (zg_mem hk)).2.2.2.2.mpr ⟨c, hc, hw⟩
  have hby : (zg (sSh S) k zs0).1 < sNc S := (i8 _ (zg_mem hk)).1
  have htime : ¬ sSc S 1 = -nI 1 := by
    rw [i2', nI_m (by omega) (by omega) (by omega)]
    exact id
  have hlen : ((sSh S).set k (zshT (sSc S 1) c (zg (sSh S) k zs0))).length = (sSh S).length := List.length_set
  have hz : ∀ j, j < (sSh S).length → zg ((sSh S).set k (zshT (sSc S 1) c (zg (sSh S) k zs0))) j zs0 = if j = k then zshT (sSc S 1) c (zg (sSh S) k zs0) else zg (sSh S) j zs0 := fun j hj => zg_set hk hj
  constructor
  · intro hm
    have o : zoff [27] σ (zput σ 27 k (nI (zmask (va_up (zg (sSh S) k zs0).2.2.2.2.2.2 c false)))) := zoff_put (by simp)
    refine ⟨XC_c (o 0 (by simp)) r1, XT_c (o 0 (by simp)) r2, XG_c (o 2 (by simp)) r3, XH_c (o 3 (by simp)) (o 4 (by simp)) (o 5 (by simp)) r4, XK_c (o 7 (by simp)) (o 8 (by simp)) r5, XF_c (o 10 (by simp)) r6, XN_c (o 12 (by simp)) (o 13 (by simp)) (o 14 (by simp)) (o 15 (by simp)) (o 16 (by simp)) r7, XQ_c (o 18 (by simp)) (o 19 (by simp)) r8, ⟨?_, fun j hj => ?_⟩, fun c' hc' => ?_⟩
    · show _ = nI ((sSh S).set k _).length
      rw [hlen, o 20 (by simp)]; exact r9
    · have hj' : j < (sSh S).length := by
        have : j < ((sSh S).set k (zshT (sSc S 1) c (zg (sSh S) k zs0))).length := hj
        rwa [hlen] at this
      show XSr (zg ((sSh S).set k (zshT (sSc S 1) c (zg (sSh S) k zs0))) j zs0) j _
      rw [hz j hj']
      obtain ⟨g1, g2, g3, g4, g5, g6, g7⟩ := r9' j hj'
      unfold XSr
      rw [o 21 (by simp), o 22 (by simp), o 23 (by simp), o 24 (by simp), o 25 (by simp), o 26 (by simp), zput_in]
      by_cases e : j = k
      · subst e
        rw [if_pos rfl, if_pos rfl]
        refine ⟨g1, g2, g3, g4, g5, ?_, rfl⟩
        show σ 26 j = if zmask _ = 0 then _ else _
        rw [if_neg hm]
        exact g6
      · rw [if_neg e, if_neg e]
        exact ⟨g1, g2, g3, g4, g5, g6, g7⟩
    · show zput σ 27 k _ 9 c' = zund ((sSh S).set k _) c'
      rw [o 9 (by simp), r10 c' hc']
      refine (zund_congr hlen (fun j hj => ?_)).symm
      rw [hz j hj]
      by_cases e : j = k
      · subst e
        rw [if_pos rfl]
        show (_ ∧ (if zmask _ = 0 then _ else _) = _) ↔ _
        rw [if_neg hm]
        exact Iff.rfl
      · rw [if_neg e]
  · intro hm
    have o : zoff [27, 26, 9] σ (zput (zput (zput σ 27 k (nI (zmask (va_up (zg (sSh S) k zs0).2.2.2.2.2.2 c false)))) 26 k (sSc S 1)) 9 (zg (sSh S) k zs0).1 (-nI 1)) := zoff_tr (zoff_tr (zoff_put (by simp)) (zoff_put (by simp))) (zoff_put (by simp))
    refine ⟨XC_c (o 0 (by simp)) r1, XT_c (o 0 (by simp)) r2, XG_c (o 2 (by simp)) r3, XH_c (o 3 (by simp)) (o 4 (by simp)) (o 5 (by simp)) r4, XK_c (o 7 (by simp)) (o 8 (by simp)) r5, XF_c (o 10 (by simp)) r6, XN_c (o 12 (by simp)) (o 13 (by simp)) (o 14 (by simp)) (o 15 (by simp)) (o 16 (by simp)) r7, XQ_c (o 18 (by simp)) (o 19 (by simp)) r8, ⟨?_, fun j hj => ?_⟩, fun c' hc' => ?_⟩
    · show _ = nI ((sSh S).set k _).length
      rw [hlen, o 20 (by simp)]; exact r9
    · have hj' : j < (sSh S).length := by
        have : j < ((sSh S).set k (zshT (sSc S 1) c (zg (sSh S) k zs0))).length := hj
        rwa [hlen] at this
      show XSr (zg ((sSh S).set k (zshT (sSc S 1) c (zg (sSh S) k zs0))) j zs0) j _
      rw [hz j hj']
      obtain ⟨g1, g2, g3, g4, g5, g6, g7⟩ := r9' j hj'
      unfold XSr
      rw [o 21 (by simp), o 22 (by simp), o 23 (by simp), o 24 (by simp), o 25 (by simp), zput_ne (by decide : (26 : Nat) ≠ 9), zput_ne (by decide : (27 : Nat) ≠ 9), zput_ne (by decide : (27 : Nat) ≠ 26), zput_in, zput_in, zput_ne (by decide : (26 : Nat) ≠ 27)]
      by_cases e : j = k
      · subst e
        rw [if_pos rfl, if_pos rfl, if_pos rfl]
        refine ⟨g1, g2, g3, g4, g5, ?_, rfl⟩
        show sSc S 1 = if zmask _ = 0 then _ else _
        rw [if_pos hm]
      · rw [if_neg e, if_neg e, if_neg e]
        exact ⟨g1, g2, g3, g4, g5, g6, g7⟩
    · show zput (zput (zput σ 27 k _) 26 k _) 9 (zg (sSh S) k zs0).1 _ 9 c' = zund ((sSh S).set k _) c'
      rw [zput_in, zput_ne (by decide), zput_ne (by decide)]
      by_cases e2 : c' = (zg (sSh S) k zs0).1
      · rw [if_pos e2]
        refine (zund_none (fun j hj => ?_)).symm
        rw [hlen] at hj
        rw [hz j hj]
        by_cases e : j = k
        · subst e
          rw [if_pos rfl]
          show ¬ (_ ∧ (if zmask _ = 0 then _ else _) = _)
          rw [if_pos hm]
          exact fun q => htime q.2
        · rw [if_neg e]
          exact fun q => e (i9 j k hj hk (q.1.trans e2) q.2 hdn)
      · rw [if_neg e2, r10 c' hc']
        refine (zund_congr hlen (fun j hj => ?_)).symm
        rw [hz j hj]
        by_cases e : j = k
        · subst e
          rw [if_pos rfl]
          exact ⟨fun q => absurd q.1.symm e2, fun q => absurd q.1.symm e2⟩
        · rw [if_neg e]
theorem zIQ_len {nc : Nat} {qu : Nat → List Nat} {sh : List zSh} (h : zIQ nc qu sh) (hl : sh.length ≤ 40) : ∀ c, c < 4 → (qu c).length ≤ 40 := by
  intro c hc
  obtain ⟨h1, h2, -⟩ := h c hc
  have key : ∀ (l : List Nat) (lo m : Nat), l.Pairwise (· < ·) → (∀ x ∈ l, lo ≤ x ∧ x < m) → l.length ≤ m - lo := by
    intro l
    induction l with
    | nil => intro lo m _ _; exact Nat.zero_le _
    | cons a t ih =>
      intro lo m hp hx
      rw [List.pairwise_cons] at hp
      have h3 := ih (a + 1) m hp.2 (fun x hx2 => ⟨hp.1 x hx2, (hx x (by simp [hx2])).2⟩)
      have h4 := hx a (by simp)
      rw [List.length_cons]
      omega
  have := key _ 0 _ h1 (fun x hx => ⟨Nat.zero_le _, h2 x hx⟩)
  omega
theorem zInv_q {n : Nat} {S : zSt} (h : zInv n S) : ∀ c, c < 4 → (sQu S c).length ≤ 40 := zIQ_len h.2.2.2.2.2.1 h.2.2.2.2.2.2.1.1
theorem zInv_f {n : Nat} {S : zSt} (h : zInv n S) : ∀ c s, c < 4 → s < 3 → sFg S (c * 3 + s) < 2 ^ 30 := fun c s hc hs => by
  have h1 := h.2.2.2.2.2.2.2.2 c s hc hs
  have h2 := h.2.2.2.2.2.2.2.1 s hs
  have h3 := h.2.2.2.2.2.2.1.1
  omega
theorem zInv_g {n : Nat} {S : zSt} (h : zInv n S) : ∀ s, s < 3 → sGen S s ≤ 40 := fun s hs => by
  have h2 := h.2.2.2.2.2.2.2.1 s hs
  have h3 := h.2.2.2.2.2.2.1.1
  omega
/-- the generation of a shoot is at most its space's -/
def zIg2 (S : zSt) : Prop := ∀ k, k < (sSh S).length → (zg (sSh S) k zs0).2.2.2.1 ≤ sGen S (zg (sSh S) k zs0).2.1
theorem X_take {b : Bool} {d : Nat} {Q : zQ} {S : zSt} {σ : zV} {c n : Nat} (h : RX S σ) (hI : zInv n S) (hn : n < 2 ^ 30) (hc : c < 4) (h0 : sQu S c = [] → Q (some (.int (-nI 1))) σ)
    (h1 : ∀ k t, sQu S c = k :: t → ∀ σ', RX (sTake c k S) σ' → zXo σ σ' → Q (some (.int (nI k))) σ') : zCall (zUn b) (d + 4) yX5_takeFirstCall [.ref 0, .int (nI c)] σ Q := by
  rw [nX5_takeFirstCall, bX5_takeFirstCall_0]
  refine X_remove h hc (zInv_q hI) (fun hq => ?_) (fun k t hq σ1 m1 o1 => ?_)
  · simp only [z_toL, List.cons_append, List.nil_append]
    rw [bX5_takeFirstCall_8]
    refine ⟨fun _ => h0 hq, fun q => absurd ?_ q⟩
    decide
  · have hk : k < (sSh S).length := (hI.2.2.2.2.2.1 c hc).2.1 k (by rw [hq]; simp)
    have hsl := hI.2.2.2.2.2.2.1.1
    have hw : (zg (sSh S) k zs0).2.2.2.2.2.2 c = true := (((hI.2.2.2.2.2.1 c hc).2.2 k hk).1).mpr (by rw [hq]; simp)
    obtain ⟨q1, q2, q3, q4, q5⟩ := hI.2.2.2.2.2.2.1.2.1 _ (zg_mem (x := zs0) hk)
    have hIt : zIN (sNo S) := hI.2.2.2.2.1
    simp only [z_toL, List.cons_append, List.nil_append]
    have m1' := m1
    obtain ⟨-, -, -, -, -, -, rN, -, ⟨rS, rS'⟩, -⟩ := m1'
    have rS : σ1 20 0 = nI (sSh S).length := rS
    obtain ⟨g1, g2, g3, g4, g5, g6, g7⟩ : XSr (zg (sSh S) k zs0) k σ1 := rS' k hk
    rw [bX5_takeFirstCall_8]
    simp (disch := omega) only [nI_add, pk_mul, pk_sub, nI_clamp, nI_ltE, nI_leE, nI_eqE, nI_m, nI_m', nI_lt0, vp_inE, Nat.not_lt_zero, zc3, zc4, zc5, zc16, zc20, zc40, true_implies, false_implies, not_true_eq_false, not_false_eq_true, true_and, and_true, eq_self, implies_true, z_toL, z_toN, List.cons_append, List.nil_append, rS, g2, g3]
    refine ⟨fun q => absurd q (by omega), fun _ => ⟨by omega, by omega, ?_⟩⟩
    refine X_forget rN hIt hc q2 (fun σ2 o2 m2 => ?_)
    have m2 := RX_forg m1 o2 m2
    simp only [z_toL, List.cons_append, List.nil_append]
    have m2' := m2
    obtain ⟨-, -, -, -, -, -, -, -, ⟨-, rS2⟩, -⟩ := m2'
    obtain ⟨g1, g2, g3, g4, g5, g6, g7⟩ : XSr (zg (sSh S) k zs0) k σ2 := rS2 k hk
    rw [bX5_takeFirstCall_48]
    simp (disch := omega) only [nI_add, pk_mul, pk_sub, nI_clamp, nI_ltE, nI_leE, nI_eqE, nI_m, nI_m', nI_lt0, vp_inE, Nat.not_lt_zero, zc3, zc4, zc5, zc16, zc20, zc40, true_implies, false_implies, not_true_eq_false, not_false_eq_true, true_and, and_true, eq_self, implies_true, z_toL, z_toN, List.cons_append, List.nil_append, g2, g4]
    refine ⟨by omega, by omega, ?_⟩
    have hf := zInv_f hI
    refine X_raise m2 hc q2 (by omega) hf (fun σ3 m3 o3 => ?_)
    simp only [z_toN, List.nil_append]
    have m3' := m3
    obtain ⟨-, t3, -, -, -, -, -, -, ⟨-, rS3⟩, -⟩ := m3'
    obtain ⟨g1, g2, g3, g4, g5, g6, g7⟩ : XSr (zg (sSh S) k zs0) k σ3 := rS3 k hk
    have t6 : σ3 0 6 = sSc S 1 := t3.1
    have t13 : σ3 0 13 = sSc S 8 := t3.2.2.2.2.2.2.2.1
    obtain ⟨w1, w2⟩ := X_wait0 (k := k) (c := c) m3 hI.2.1 hI.2.2.2.2.2.2.1 hn hc hk hw
    have hby : (zg (sSh S) k zs0).1 < 4 := by have := hI.1.2; omega
    rw [bX5_takeFirstCall_75]
    simp (disch := omega) only [nI_add, pk_mul, pk_sub, nI_clamp, nI_ltE, nI_leE, nI_eqE, nI_m, nI_m', nI_lt0, vp_inE, Nat.not_lt_zero, zc3, zc4, zc5, zc16, zc20, zc40, true_implies, false_implies, not_true_eq_false, not_false_eq_true, true_and, and_true, eq_self, implies_true, z_toL, z_toN, List.cons_append, List.nil_append, zput_ne, zput_in, g1, g7, t6, t13, zmask_off hc, if_true]
    refine ⟨by omega, by omega, by omega, fun q => ?_, fun q => ?_⟩
    · have hm : zmask (va_up (zg (sSh S) k zs0).2.2.2.2.2.2 c false) ≠ 0 := fun e => q (by rw [e])
      have w := RX_set (w1 hm) 8 (by omega) (by omega) (sSc S 8 + nI 1)
      refine h1 k t hq _ w ?_
      exact zXo_tr (zXo_of o1 rfl) (zXo_tr (zXo_of o2 rfl) (zXo_tr (zXo_of o3 rfl) (zXo_tr (zXo_put (by omega)) (zXo_put (by omega)))))
    · have hm : zmask (va_up (zg (sSh S) k zs0).2.2.2.2.2.2 c false) = 0 := by
        have hlt := zmask_lt (w := va_up (zg (sSh S) k zs0).2.2.2.2.2.2 c false)
        rwa [nI_eqE (by omega) (by omega)] at q
      have w := RX_set (w2 hm) 8 (by omega) (by omega) (sSc S 8 + nI 1)
      have w' : RX (sTake c k S) _ := w
      have fin := h1 k t hq _ w' (zXo_tr (zXo_of o1 rfl) (zXo_tr (zXo_of o2 rfl) (zXo_tr (zXo_of o3 rfl) (zXo_tr (zXo_put (by omega)) (zXo_tr (zXo_put (by omega)) (zXo_tr (zXo_put (by omega)) (zXo_put (by omega))))))))
      exact ⟨by omega, by omega, by omega, fin⟩
