/-! the class: looks -/
theorem zkeep_at : ∀ (l : List zNote) (k : Nat), k < l.length → (∀ n ∈ l, n.2.1 < 16) → l.Pairwise (fun a b => ¬ (a.1 = b.1 ∧ a.2.1 = b.2.1)) → zkeep (zg l k zn0).1 (nI (zg l k zn0).2.1) l = l.eraseIdx k := by
  intro l
  induction l with
  | nil => intro k h _ _; exact absurd h (by simp)
  | cons a t ih =>
    intro k h hI hp
    cases k with
    | zero =>
      rw [zer0]
      exact zkeep_head (by simp) hI hp
    | succ k =>
      have hk : k < t.length := by simpa using h
      have e : zg (a :: t) (k + 1) zn0 = zg t k zn0 := zg_of (by rw [List.getElem?_cons_succ]; exact zg_some hk)
      have hm : zg t k zn0 ∈ t := zg_mem hk
      have h1 := (List.pairwise_cons.mp hp).1 _ hm
      have h2 := hI a (by simp)
      have h3 := hI (zg t k zn0) (by simp [hm])
      have i := ih k hk (fun n hn => hI n (by simp [hn])) (List.pairwise_cons.mp hp).2
      rw [e, List.eraseIdx_cons_succ]
      unfold zkeep at i ⊢
      rw [List.filter_cons, if_pos, i]
      unfold zmF
      rw [decide_eq_false (show ¬ nI (zg t k zn0).2.1 = -nI 1 from by rw [nI_m (by omega) (by omega) (by omega)]; exact id)]
      by_cases h4 : a.1 = (zg t k zn0).1
      · have h5 : ¬ a.2.1 = (zg t k zn0).2.1 := fun q => h1 ⟨h4, q⟩
        rw [decide_eq_false (show ¬ nI a.2.1 = nI (zg t k zn0).2.1 from by rw [nI_eqE (by omega) (by omega)]; exact h5)]
        simp
      · rw [decide_eq_false h4]
        simp
theorem zup2 {f : Nat → Int32} {a v w : Int32} {i j : Nat} (h : i ≠ j) : va_up (va_up (va_up f i a) j v) i w = va_up (va_up f j v) i w := by
  funext k
  unfold va_up
  by_cases e : k = i
  · simp [e]
  · simp [e]
def sHit (m : zNote) (S : zSt) : zSt := if zstl S m = true then sSet 2 (nI 2) (sInc 5 (sInc 4 S)) else sSet 2 (nI 1) (sInc 4 S)
theorem sHit_eq {S : zSt} : sSet 2 (nI 2) (sInc 5 (sSet 2 (nI 1) S)) = sSet 2 (nI 2) (sInc 5 S) := by
  show zMk _ (va_up (va_up (va_up (sSc S) 2 (nI 1)) 5 (va_up (sSc S) 2 (nI 1) 5 + nI 1)) 2 (nI 2)) _ _ _ _ _ _ _ _ = zMk _ (va_up (va_up (sSc S) 5 (sSc S 5 + nI 1)) 2 (nI 2)) _ _ _ _ _ _ _ _
  rw [zup2 (by omega), va_up_ne _ _ (show 5 ≠ 2 by omega)]
  rfl
theorem zI_hit {n : Nat} {m : zNote} {S : zSt} (h : zI n S) : zI n (sHit m S) := by
  unfold sHit
  split
  · exact zI_set (zI_set (zI_set h (by omega)) (by omega)) (by omega)
  · exact zI_set (zI_set h (by omega)) (by omega)
theorem X_go {b : Bool} {d : Nat} {Q : zQ} {S : zSt} {σ : zV} {c k n : Nat} (h : RX S σ) (hI : zI n S) (hc : c < 4) (hk : k < (sNo S c).length) (hQ : ∀ σ', RX (sHit (zg (sNo S c) k zn0) S) σ' → zXo σ σ' → Q (some (.int (nI (zef (zg (sNo S c) k zn0).2.2.1)))) σ') : zCall (zUn b) (d + 5) yX5_goByNote [.ref 0, .int (nI c), .int (nI k)] σ Q := by
  obtain ⟨g0, g1, g2, g3, g4⟩ := zno hI hc hk
  have k9 : σ 0 9 = sSc S 4 := h.2.1.2.2.2.1
  have m1 : RX (sInc 4 S) (zput σ 0 9 (sSc S 4 + nI 1)) := RX_set h 4 (by omega) (by omega) _
  have m2 : RX (sSet 2 (nI 1) (sInc 4 S)) (zput (zput σ 0 9 (sSc S 4 + nI 1)) 0 7 (nI 1)) := RX_set m1 2 (by omega) (by omega) _
  have hI2 : zI n (sSet 2 (nI 1) (sInc 4 S)) := zI_set (zI_set hI (by omega)) (by omega)
  have o2 : zXo σ (zput (zput σ 0 9 (sSc S 4 + nI 1)) 0 7 (nI 1)) := zXo_tr (zXo_put (by omega)) (zXo_put (by omega))
  rw [nX5_goByNote, bX5_goByNote_0, k9]
  generalize zput (zput σ 0 9 (sSc S 4 + nI 1)) 0 7 (nI 1) = σ2 at m2 o2
  refine X_stale (d := d) m2 hI2 hc hk ?_
  have x3 : σ2 15 (c * 4 + k) = zt (zg (sNo S c) k zn0).2.2.1 := ((m2.2.2.2.2.2.2.1 c hc).2 k hk).2.2.1
  have k10 : σ2 0 10 = sSc (sSet 2 (nI 1) (sInc 4 S)) 5 := m2.2.1.2.2.2.2.1
  have m3 : RX (sInc 5 (sSet 2 (nI 1) (sInc 4 S))) (zput σ2 0 10 (sSc (sSet 2 (nI 1) (sInc 4 S)) 5 + nI 1)) := RX_set m2 5 (by omega) (by omega) _
  have m4 : RX (sSet 2 (nI 2) (sInc 5 (sSet 2 (nI 1) (sInc 4 S)))) (zput (zput σ2 0 10 (sSc (sSet 2 (nI 1) (sInc 4 S)) 5 + nI 1)) 0 7 (nI 2)) := RX_set m3 2 (by omega) (by omega) _
  rw [sHit_eq] at m4
  have es : zstl (sSet 2 (nI 1) (sInc 4 S)) (zg (sNo (sSet 2 (nI 1) (sInc 4 S)) c) k zn0) = zstl S (zg (sNo S c) k zn0) := rfl
  have ho : ∀ σ', RX (sHit (zg (sNo S c) k zn0) S) σ' → zXo σ σ' → Q (some (.int (nI (zef (zg (sNo S c) k zn0).2.2.1)))) σ' := hQ
  unfold sHit at ho
  simp only [z_toL, List.cons_append, List.nil_append]
  rw [bX5_goByNote_21, es]
  simp (disch := omega) only [pk_mul, nI_add, nI_clamp, vp_inE, zput_ne, x3, k10]
  refine ⟨fun q => ⟨by omega, ?_⟩, fun q => ⟨by omega, ?_⟩⟩
  · have e : ¬ zstl S (zg (sNo S c) k zn0) = true := by rw [zb_0] at q; rw [q]; simp
    rw [if_neg e] at ho
    exact zef_X (P := fun x => Q (some (.int x)) σ2) g3 g4 (ho σ2 m2 o2)
  · have e : zstl S (zg (sNo S c) k zn0) = true := by rw [zb_0] at q; cases ez : zstl S (zg (sNo S c) k zn0); exact absurd ez q; rfl
    rw [if_pos e] at ho
    exact zef_X (P := fun x => Q (some (.int x)) _) g3 g4 (ho _ m4 (zXo_tr o2 (zXo_tr (zXo_put (by omega)) (zXo_put (by omega)))))
def zflt (s p : Nat) (tw : Int32) (S : zSt) : Prop := zlast (sHi S (s * 16 + p)) = 0 ∨ (¬ tw = nI 0 ∧ ¬ 768 ≤ zlast (sHi S (s * 16 + p)))
def sFlt (S : zSt) : zSt := sSet 2 (nI 4) (sInc 7 S)
def sWlk (c s p : Nat) (S : zSt) : zSt := sNote c (s, p, zlast (sHi S (s * 16 + p)), sSc S 1) (sSet 2 (nI 3) (sInc 6 S))
theorem X_walk {b : Bool} {d : Nat} {Q : zQ} {S : zSt} {σ : zV} {c s p n : Nat} {tw : Int32} (h : RX S σ) (hI : zI n S) (hc : c < 4) (hs : s < 3) (hp : p < 16)
    (h1 : zflt s p tw S → ∀ σ', RX (sFlt S) σ' → zXo σ σ' → Q (some (.int (-nI 105))) σ')
    (h2 : ¬ zflt s p tw S → ∀ σ', RX (sWlk c s p S) σ' → zXo σ σ' → Q (some (.int (nI (zef (zlast (sHi S (s * 16 + p))))))) σ') : zCall (zUn b) (d + 5) yX5_walkTable [.ref 0, .int (nI c), .int (nI s), .int (nI p), .int tw] σ Q := by
  obtain ⟨a1, a2, a3, a4, a5⟩ := zX_now h hI hs hp
  have wr := zt_w a5
  have nlt : (zt (zlast (sHi S (s * 16 + p))) < nI 256) = ¬ (768 ≤ zlast (sHi S (s * 16 + p))) := by
    rw [← wr, Int32.lt_iff_toInt_lt, Int32.le_iff_toInt_le]
    exact propext ⟨fun a b => by omega, fun a => by omega⟩
  have k12 : σ 0 12 = sSc S 7 := h.2.1.2.2.2.2.2.2.1
  have k11 : σ 0 11 = sSc S 6 := h.2.1.2.2.2.2.2.1
  have f1 : RX (sInc 7 S) (zput σ 0 12 (sSc S 7 + nI 1)) := RX_set h 7 (by omega) (by omega) _
  have f2 : RX (sFlt S) (zput (zput σ 0 12 (sSc S 7 + nI 1)) 0 7 (nI 4)) := RX_set f1 2 (by omega) (by omega) _
  have fo : zXo σ (zput (zput σ 0 12 (sSc S 7 + nI 1)) 0 7 (nI 4)) := zXo_tr (zXo_put (by omega)) (zXo_put (by omega))
  have w1 : RX (sInc 6 S) (zput σ 0 11 (sSc S 6 + nI 1)) := RX_set h 6 (by omega) (by omega) _
  have w2 : RX (sSet 2 (nI 3) (sInc 6 S)) (zput (zput σ 0 11 (sSc S 6 + nI 1)) 0 7 (nI 3)) := RX_set w1 2 (by omega) (by omega) _
  have wo : zXo σ (zput (zput σ 0 11 (sSc S 6 + nI 1)) 0 7 (nI 3)) := zXo_tr (zXo_put (by omega)) (zXo_put (by omega))
  have k6 : zput (zput σ 0 11 (sSc S 6 + nI 1)) 0 7 (nI 3) 0 6 = sSc S 1 := w2.2.1.1
  rw [nX5_walkTable, bX5_walkTable_0, k12, k11, k6]
  simp (disch := omega) only [pk_mul, nI_add, nI_clamp, vp_inE, a1, pk_sub, a4, zt_none a5, nlt]
  have kp : ¬ zflt s p tw S → zCall (zUn b) (d + 4) yX1_keep [.ref 11, .int (nI c), .int (nI s), .int (nI p), .int (zt (zlast (sHi S (s * 16 + p)))), .int (sSc S 1)] (zput (zput σ 0 11 (sSc S 6 + nI 1)) 0 7 (nI 3)) (fun v σ' => eX5_walkTable b (d + 4) Q 79 [.ref 0, .int (nI c), .int (nI s), .int (nI p), .int tw, .int (zt (zlast (sHi S (s * 16 + p))))] (v.toList ++ []) σ') := by
    intro hn
    refine X_keep (d := d) (n := (s, p, zlast (sHi S (s * 16 + p)), sSc S 1)) w2.2.2.2.2.2.2.1 hI.1.2.2.2.2.1 hc (fun σ' o hN => ?_)
    simp only [z_toN, List.nil_append]
    rw [bX5_walkTable_79]
    have hq := h2 hn σ' (RX_note w2 o hN) (zXo_tr wo (zXo_of o rfl))
    have e0 : zlast (sHi S (s * 16 + p)) ≠ 0 := fun z => hn (Or.inl z)
    exact zef_X (P := fun x => Q (some (.int x)) σ') a5 e0 hq
  refine ⟨by omega, by omega, fun q => h1 (Or.inl q) _ f2 fo, fun q => ⟨fun q2 => kp ?_, fun q2 => ⟨fun q3 => h1 (Or.inr ⟨q2, q3⟩) _ f2 fo, fun q3 => kp ?_⟩⟩⟩
  · rintro (z | ⟨z, _⟩)
    · exact q z
    · exact z q2
  · rintro (z | ⟨_, z⟩)
    · exact q z
    · exact q3 z
