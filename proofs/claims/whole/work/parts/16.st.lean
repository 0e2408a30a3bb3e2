/-! the state both sides stand for, its steps, and what is always so of it -/
abbrev zSt : Type := Nat × (Nat → Int32) × (Nat → Nat) × (Nat → List (Nat × Int32)) × (Nat → Nat) × (Nat → Bool) × (Nat → Nat) × (Nat → List zNote) × (Nat → List Nat) × List zSh
def sNc (S : zSt) : Nat := S.1
def sSc (S : zSt) : Nat → Int32 := S.2.1
def sGen (S : zSt) : Nat → Nat := S.2.2.1
def sHi (S : zSt) : Nat → List (Nat × Int32) := S.2.2.2.1
def sSp (S : zSt) : Nat → Nat := S.2.2.2.2.1
def sAw (S : zSt) : Nat → Bool := S.2.2.2.2.2.1
def sFg (S : zSt) : Nat → Nat := S.2.2.2.2.2.2.1
def sNo (S : zSt) : Nat → List zNote := S.2.2.2.2.2.2.2.1
def sQu (S : zSt) : Nat → List Nat := S.2.2.2.2.2.2.2.2.1
def sSh (S : zSt) : List zSh := S.2.2.2.2.2.2.2.2.2
def zMk (nc : Nat) (sc : Nat → Int32) (gen : Nat → Nat) (hi : Nat → List (Nat × Int32)) (sp : Nat → Nat) (aw : Nat → Bool) (fg : Nat → Nat) (no : Nat → List zNote) (qu : Nat → List Nat) (sh : List zSh) : zSt := (nc, sc, gen, hi, sp, aw, fg, no, qu, sh)
def RX (S : zSt) (σ : zV) : Prop := XC (sNc S) σ ∧ XT (sSc S) σ ∧ XG (sGen S) σ ∧ XH (sHi S) σ ∧ XK (sSp S) (sAw S) σ ∧ XF (sFg S) σ ∧ XN (sNo S) σ ∧ XQ (sQu S) σ ∧ XS (sSh S) σ ∧ XU (sSh S) σ
def RM (S : zSt) (σ : zV) : Prop := MC (sNc S) σ ∧ MT (sSc S) σ ∧ MG (sGen S) σ ∧ MH (sHi S) σ ∧ MK (sSp S) (sAw S) σ ∧ MF (sFg S) σ ∧ MN (sNo S) σ ∧ MQu (sQu S) σ ∧ MS (sSh S) σ
def zInv (n : Nat) (S : zSt) : Prop := (1 ≤ sNc S ∧ sNc S ≤ 4) ∧ zIT n (sSc S) ∧ zIH (sHi S) ∧ zIK (sSp S) ∧ zIN (sNo S) ∧ zIQ (sNc S) (sQu S) (sSh S) ∧ zIS (sNc S) (sSh S) ∧ zIG (sGen S) (sFg S) (sSh S)
def sSet (i : Nat) (v : Int32) (S : zSt) : zSt := zMk (sNc S) (va_up (sSc S) i v) (sGen S) (sHi S) (sSp S) (sAw S) (sFg S) (sNo S) (sQu S) (sSh S)
def sInc (i : Nat) (S : zSt) : zSt := sSet i (sSc S i + nI 1) S
def sHist (p e : Nat) (S : zSt) : zSt := zMk (sNc S) (sSc S) (sGen S) (va_up (sHi S) p (zadh (sHi S p) (e, sSc S 1))) (sSp S) (sAw S) (sFg S) (sNo S) (sQu S) (sSh S)
def sForg (c s : Nat) (p : Int32) (S : zSt) : zSt := zMk (sNc S) (sSc S) (sGen S) (sHi S) (sSp S) (sAw S) (sFg S) (va_up (sNo S) c (zkeep s p (sNo S c))) (sQu S) (sSh S)
def sNote (c : Nat) (n : zNote) (S : zSt) : zSt := zMk (sNc S) (sSc S) (sGen S) (sHi S) (sSp S) (sAw S) (sFg S) (va_up (sNo S) c (zadd (sNo S c) n)) (sQu S) (sSh S)
def sSpa (c s : Nat) (S : zSt) : zSt := zMk (sNc S) (sSc S) (sGen S) (sHi S) (va_up (sSp S) c s) (sAw S) (sFg S) (sNo S) (sQu S) (sSh S)
def sAwk (c : Nat) (a : Bool) (S : zSt) : zSt := zMk (sNc S) (sSc S) (sGen S) (sHi S) (sSp S) (va_up (sAw S) c a) (sFg S) (sNo S) (sQu S) (sSh S)
def sRai (c s g : Nat) (S : zSt) : zSt := zMk (sNc S) (sSc S) (sGen S) (sHi S) (sSp S) (sAw S) (va_up (sFg S) (c * 3 + s) (if sFg S (c * 3 + s) < g then g else sFg S (c * 3 + s))) (sNo S) (sQu S) (sSh S)
def sTail (c : Nat) (S : zSt) : zSt := zMk (sNc S) (sSc S) (sGen S) (sHi S) (sSp S) (sAw S) (sFg S) (sNo S) (va_up (sQu S) c (sQu S c).tail) (sSh S)
/-- core c is waited for no more by a shoot -/
def zshT (time : Int32) (c : Nat) (r : zSh) : zSh := (r.1, r.2.1, r.2.2.1, r.2.2.2.1, r.2.2.2.2.1, if zmask (va_up r.2.2.2.2.2.2 c false) = 0 then time else r.2.2.2.2.2.1, va_up r.2.2.2.2.2.2 c false)
def sWait (k c : Nat) (S : zSt) : zSt := zMk (sNc S) (sSc S) (sGen S) (sHi S) (sSp S) (sAw S) (sFg S) (sNo S) (sQu S) ((sSh S).set k (zshT (sSc S 1) c (zg (sSh S) k zs0)))
/-- a core takes its first call, shoot k -/
def sTake (c k : Nat) (S : zSt) : zSt := sInc 8 (sTail c (sWait k c (sRai c (zg (sSh S) k zs0).2.1 (zg (sSh S) k zs0).2.2.2.1 (sForg c (zg (sSh S) k zs0).2.1 (zg (sSh S) k zs0).2.2.1 S))))
theorem zmask_0 {w : Nat → Bool} : zmask w = 0 ↔ ∀ c, c < 4 → w c = false := by
  unfold zmask
  constructor
  · intro h c hc
    have h0 : w 0 = false := by cases e : w 0 <;> simp [e] at h ⊢
    have h1 : w 1 = false := by cases e : w 1 <;> simp [e] at h ⊢
    have h2 : w 2 = false := by cases e : w 2 <;> simp [e] at h ⊢
    have h3 : w 3 = false := by cases e : w 3 <;> simp [e] at h ⊢
    match c, hc with
    | 0, _ => exact h0
    | 1, _ => exact h1
    | 2, _ => exact h2
    | 3, _ => exact h3
  · intro h
    simp [h 0 (by omega), h 1 (by omega), h 2 (by omega), h 3 (by omega)]
theorem zmask_n0 {w : Nat → Bool} : ¬ zmask w = 0 ↔ ∃ c, c < 4 ∧ w c = true := by
  rw [zmask_0]
  constructor
  · intro h
    refine Classical.byContradiction (fun g => h (fun c hc => ?_))
    cases e : w c
    · rfl
    · exact absurd ⟨c, hc, e⟩ g
  · rintro ⟨c, hc, e⟩ h
    rw [h c hc] at e
    cases e
theorem zmask_lt {w : Nat → Bool} : zmask w < 16 := by
  unfold zmask
  split <;> split <;> split <;> split <;> omega
theorem zg_set {α : Type} {l : List α} {k j : Nat} {x y : α} (hk : k < l.length) (hj : j < l.length) : zg (l.set k y) j x = if j = k then y else zg l j x := by
  by_cases e : j = k
  · subst e
    rw [if_pos rfl]
    exact zg_of (by rw [List.getElem?_set_self hk])
  · rw [if_neg e]
    exact zg_of (by rw [List.getElem?_set_ne (Ne.symm e)]; exact zg_some hj)
theorem zIT_wk {n m : Nat} {sc : Nat → Int32} (h : zIT n sc) (hm : n ≤ m) : zIT m sc := by
  obtain ⟨t, h1, h2⟩ := h
  exact ⟨t, by omega, h2⟩
theorem zIT_up {n i : Nat} {v : Int32} {sc : Nat → Int32} (h : zIT n sc) (hi : i ≠ 1) : zIT n (va_up sc i v) := by
  obtain ⟨t, h1, h2⟩ := h
  exact ⟨t, h1, by rw [va_up_ne _ _ (Ne.symm hi)]; exact h2⟩
theorem zIN_keep {no : Nat → List zNote} {c s : Nat} {p : Int32} (h : zIN no) : zIN (va_up no c (zkeep s p (no c))) := by
  intro c' hc'
  by_cases e : c' = c
  · subst e
    rw [va_up_self]
    obtain ⟨h1, h2, h3⟩ := h c' hc'
    exact ⟨Nat.le_trans zkeep_le h1, fun n hn => h2 n (List.mem_filter.mp hn).1, h3.filter _⟩
  · rw [va_up_ne _ _ e]
    exact h c' hc'
theorem zInv_wk {n m : Nat} {S : zSt} (h : zInv n S) (hm : n ≤ m) : zInv m S := by
  obtain ⟨h1, h2, h3⟩ := h
  exact ⟨h1, zIT_wk h2 hm, h3⟩
theorem zInv_set {n i : Nat} {v : Int32} {S : zSt} (h : zInv n S) (hi : i ≠ 1) : zInv n (sSet i v S) := by
  obtain ⟨h1, h2, h3⟩ := h
  exact ⟨h1, zIT_up h2 hi, h3⟩
theorem zInv_time {n : Nat} {S : zSt} (h : zInv n S) : zInv (n + 1) (sInc 1 S) := by
  obtain ⟨h1, ⟨t, ht, he⟩, h3⟩ := h
  exact ⟨h1, ⟨t + 1, by omega, by show va_up (sSc S) 1 (sSc S 1 + nI 1) 1 = _; rw [va_up_self, he, nI_add]⟩, h3⟩
theorem zInv_forg {n c s : Nat} {p : Int32} {S : zSt} (h : zInv n S) : zInv n (sForg c s p S) := by
  obtain ⟨h1, h2, h3, h4, h5, h6⟩ := h
  exact ⟨h1, h2, h3, h4, zIN_keep h5, h6⟩
theorem zInv_spa {n c s : Nat} {S : zSt} (h : zInv n S) (hs : s < 3) : zInv n (sSpa c s S) := by
  obtain ⟨h1, h2, h3, h4, h5, h6⟩ := h
  refine ⟨h1, h2, h3, fun c' hc' => ?_, h5, h6⟩
  show va_up (sSp S) c s c' < 3
  by_cases e : c' = c
  · subst e; rw [va_up_self]; exact hs
  · rw [va_up_ne _ _ e]; exact h4 c' hc'
theorem zInv_awk {n c : Nat} {a : Bool} {S : zSt} (h : zInv n S) : zInv n (sAwk c a S) := h
theorem zInv_rai {n c s g : Nat} {S : zSt} (h : zInv n S) (hs : s < 3) (hg : g ≤ sGen S s) : zInv n (sRai c s g S) := by
  obtain ⟨h1, h2, h3, h4, h5, h6, h7, h8, h9⟩ := h
  refine ⟨h1, h2, h3, h4, h5, h6, h7, h8, fun c' s' hc' hs' => ?_⟩
  show va_up (sFg S) (c * 3 + s) _ (c' * 3 + s') ≤ sGen S s'
  have := h9 c' s' hc' hs'
  by_cases e : c' * 3 + s' = c * 3 + s
  · have es : s' = s := by omega
    rw [e, va_up_self]
    rw [e] at this
    subst es
    split <;> omega
  · rw [va_up_ne _ _ e]
    exact this
theorem zadd_len {l : List zNote} {n : zNote} (h : l.length ≤ 4) : (zadd l n).length ≤ 4 := by
  unfold zadd
  split <;> simp <;> omega
theorem zInv_note {n c : Nat} {x : zNote} {S : zSt} (h : zInv n S) (hc : c < 4) (hx : x.1 < 3 ∧ x.2.1 < 16 ∧ zvE x.2.2.1 ∧ x.2.2.1 ≠ 0) (hn : ∀ y ∈ sNo S c, ¬ (y.1 = x.1 ∧ y.2.1 = x.2.1)) : zInv n (sNote c x S) := by
  obtain ⟨h1, h2, h3, h4, h5, h6⟩ := h
  refine ⟨h1, h2, h3, h4, fun c' hc' => ?_, h6⟩
  show (va_up (sNo S) c _ c').length ≤ 4 ∧ (∀ n ∈ va_up (sNo S) c _ c', _) ∧ (va_up (sNo S) c _ c').Pairwise _
  by_cases e : c' = c
  · subst e
    rw [va_up_self]
    obtain ⟨g1, g2, g3⟩ := h5 c' hc'
    refine ⟨zadd_len g1, fun y hy => ?_, ?_⟩
    · unfold zadd at hy
      rcases List.mem_append.mp hy with hy | hy
      · refine g2 y ?_
        split at hy
        · exact List.mem_of_mem_tail hy
        · exact hy
      · rw [List.mem_singleton.mp hy]; exact hx
    · unfold zadd
      rw [List.pairwise_append]
      refine ⟨?_, by simp, fun a ha b hb => ?_⟩
      · split
        · exact g3.tail
        · exact g3
      · rw [List.mem_singleton.mp hb]
        refine hn a ?_
        split at ha
        · exact List.mem_of_mem_tail ha
        · exact ha
  · rw [va_up_ne _ _ e]
    exact h5 c' hc'
theorem zadh_ok {l : List (Nat × Int32)} {x : Nat × Int32} (h1 : l.length ≤ 20) (h2 : ∀ y ∈ l, zvE y.1) (hx : zvE x.1) : 1 ≤ (zadh l x).length ∧ (zadh l x).length ≤ 20 ∧ ∀ y ∈ zadh l x, zvE y.1 := by
  unfold zadh
  refine ⟨by simp, ?_, fun y hy => ?_⟩
  · split <;> simp <;> omega
  · rcases List.mem_append.mp hy with hy | hy
    · refine h2 y ?_
      split at hy
      · exact List.mem_of_mem_tail hy
      · exact hy
    · rw [List.mem_singleton.mp hy]; exact hx
theorem zInv_hist {n p e : Nat} {S : zSt} (h : zInv n S) (he : zvE e) : zInv n (sHist p e S) := by
  obtain ⟨h1, h2, h3, h4⟩ := h
  refine ⟨h1, h2, fun q hq => ?_, h4⟩
  show 1 ≤ (va_up (sHi S) p _ q).length ∧ (va_up (sHi S) p _ q).length ≤ 20 ∧ ∀ x ∈ va_up (sHi S) p _ q, zvE x.1
  by_cases eq : q = p
  · subst eq
    rw [va_up_self]
    exact zadh_ok (h3 q hq).2.1 (h3 q hq).2.2 he
  · rw [va_up_ne _ _ eq]
    exact h3 q hq
/-- the queue loses its first call, and that shoot waits no more for the core -/
theorem zInv_tw {n c k : Nat} {t : List Nat} {S : zSt} (h : zInv n S) (hn : n < 2 ^ 30) (hc : c < 4) (hq : sQu S c = k :: t) : zInv n (sTail c (sWait k c S)) := by
  obtain ⟨h1, h2, h3, h4, h5, h6, ⟨h7, h8, h9⟩, h10, h11⟩ := h
  obtain ⟨g1, g2, g3⟩ := h6 c hc
  rw [hq] at g1 g2 g3
  have hk : k < (sSh S).length := g2 k (by simp)
  obtain ⟨tm, htm, hte⟩ := h2
  have hwc : (zg (sSh S) k zs0).2.2.2.2.2.2 c = true := ((g3 k hk).1).mpr (by simp)
  have hdn : (zg (sSh S) k zs0).2.2.2.2.2.1 = -nI 1 := (h8 _ (zg_mem hk)).2.2.2.2.mpr ⟨c, hc, hwc⟩
  have hlen : ((sSh S).set k (zshT (sSc S 1) c (zg (sSh S) k zs0))).length = (sSh S).length := List.length_set
  have hkt : k ∉ t := fun q => by
    have := (List.pairwise_cons.mp g1).1 k q
    omega
  have htime : sSc S 1 ≠ -nI 1 := by
    rw [hte]
    intro q
    rw [nI_m (by omega) (by omega) (by omega)] at q
    exact q
  refine ⟨h1, ⟨tm, htm, hte⟩, h3, h4, h5, fun c' hc' => ?_, ⟨?_, ?_, ?_⟩, ?_, h11⟩
  · show (va_up (sQu S) c (sQu S c).tail c').Pairwise _ ∧ (∀ k' ∈ va_up (sQu S) c (sQu S c).tail c', k' < ((sSh S).set k _).length) ∧ ∀ k', k' < ((sSh S).set k _).length → _
    rw [hlen]
    refine ⟨?_, ?_, fun k' hk' => ?_⟩
    · by_cases e : c' = c
      · subst e; rw [va_up_self, hq]; exact (List.pairwise_cons.mp g1).2
      · rw [va_up_ne _ _ e]; exact (h6 c' hc').1
    · by_cases e : c' = c
      · subst e; rw [va_up_self, hq]; exact fun k' hk' => g2 k' (by simp [show k' ∈ t from hk'])
      · rw [va_up_ne _ _ e]; exact (h6 c' hc').2.1
    · obtain ⟨f1, f2⟩ := (h6 c' hc').2.2 k' hk'
      show ((zg ((sSh S).set k _) k' zs0).2.2.2.2.2.2 c' = true ↔ k' ∈ va_up (sQu S) c (sQu S c).tail c') ∧ (sNc S ≤ c' → (zg ((sSh S).set k _) k' zs0).2.2.2.2.2.2 c' = false)
      rw [zg_set hk hk']
      by_cases ek : k' = k
      · subst ek
        rw [if_pos rfl]
        show (va_up (zg (sSh S) k' zs0).2.2.2.2.2.2 c false c' = true ↔ _) ∧ (_ → va_up (zg (sSh S) k' zs0).2.2.2.2.2.2 c false c' = false)
        by_cases e : c' = c
        · subst e
          rw [va_up_self, va_up_self, hq]
          exact ⟨⟨fun q => absurd q (by decide), fun q => absurd q hkt⟩, fun _ => rfl⟩
        · rw [va_up_ne _ _ e, va_up_ne _ _ e]
          exact ⟨f1, f2⟩
      · rw [if_neg ek]
        by_cases e : c' = c
        · subst e
          rw [va_up_self, hq]
          rw [hq] at f1
          refine ⟨f1.trans ⟨fun q => ?_, fun q => by simp [show k' ∈ t from q]⟩, f2⟩
          rcases List.mem_cons.mp q with q | q
          · exact absurd q ek
          · exact q
        · rw [va_up_ne _ _ e]
          exact ⟨f1, f2⟩
  · show ((sSh S).set k _).length ≤ 40
    rw [hlen]; exact h7
  · intro r hr
    rcases List.mem_or_eq_of_mem_set hr with hr | hr
    · exact h8 r hr
    · obtain ⟨e1, e2, e3, e4, e5⟩ := h8 _ (zg_mem (x := zs0) hk)
      rw [hr]
      refine ⟨e1, e2, e3, e4, ?_⟩
      show (if zmask (va_up (zg (sSh S) k zs0).2.2.2.2.2.2 c false) = 0 then sSc S 1 else (zg (sSh S) k zs0).2.2.2.2.2.1) = -nI 1 ↔ ∃ c', c' < 4 ∧ va_up (zg (sSh S) k zs0).2.2.2.2.2.2 c false c' = true
      by_cases ez : zmask (va_up (zg (sSh S) k zs0).2.2.2.2.2.2 c false) = 0
      · rw [if_pos ez]
        exact ⟨fun q => absurd q htime, fun q => absurd ez (zmask_n0.mpr q)⟩
      · rw [if_neg ez]
        exact ⟨fun _ => zmask_n0.mp ez, fun _ => hdn⟩
  · show ∀ i j, i < ((sSh S).set k _).length → j < ((sSh S).set k _).length → (zg ((sSh S).set k _) i zs0).1 = (zg ((sSh S).set k _) j zs0).1 → (zg ((sSh S).set k _) i zs0).2.2.2.2.2.1 = -nI 1 → (zg ((sSh S).set k _) j zs0).2.2.2.2.2.1 = -nI 1 → i = j
    rw [hlen]
    intro i j hi hj hby
    have key : ∀ i, i < (sSh S).length → (zg ((sSh S).set k (zshT (sSc S 1) c (zg (sSh S) k zs0))) i zs0).1 = (zg (sSh S) i zs0).1 ∧ ((zg ((sSh S).set k (zshT (sSc S 1) c (zg (sSh S) k zs0))) i zs0).2.2.2.2.2.1 = -nI 1 → (zg (sSh S) i zs0).2.2.2.2.2.1 = -nI 1) := by
      intro i hi
      rw [zg_set hk hi]
      by_cases e : i = k
      · subst e
        rw [if_pos rfl]
        exact ⟨rfl, fun _ => hdn⟩
      · rw [if_neg e]
        exact ⟨rfl, id⟩
    rw [(key i hi).1, (key j hj).1] at hby
    exact fun q1 q2 => h9 i j hi hj hby ((key i hi).2 q1) ((key j hj).2 q2)
  · show ∀ s, s < 3 → sGen S s ≤ ((sSh S).set k _).length
    rw [hlen]; exact h10
