/-! a run that comes to an end does so on the machine -/
def zNw (s : State) : Prop := ∀ w ∈ lw_tbl, zisN w = true → va_Nw w s
theorem zisN_on {w : Cond} (h : zisN w = true) : w.onTables = true := by cases w <;> first | rfl | (simp [zisN] at h)
theorem zNw_warm {s U : State} (h : zNw s) (hW : s.WarmedH U.vm) : zNw U := by
  intro w hw hn
  have h1 := h w hw hn
  cases w <;> first | exact va_Nw.warmF hW h1 | exact va_Nw.warmM hW h1 | (simp [zisN] at hn)
def zB (D : va_G) (q : Nat → Nat) (cI cZ : ClassId) (U : zU) (σ : zV) (A : Nat → Prop) (t : State) : Prop := va_P D vwCl (zW q cI cZ U σ) t.heap ∧ va_K D vwCl (zTy cI cZ) t ∧ va_D A (zW q cI cZ U σ) ∧ zNw t
def zPost (D : va_G) (q : Nat → Nat) (cI cZ : ClassId) (U : zU) (Q : zQ) (A : Nat → Prop) : Array Value → State → Outcome → State → Prop := fun _ st oc t => (∃ v σ', oc = .returned (v.map (zc q)) ∧ Q v σ' ∧ va_P D vwCl (zW q cI cZ U σ') t.heap ∧ va_D A (zW q cI cZ U σ')) ∧ va_F A st t
def zPre (D : va_G) (q : Nat → Nat) (cI cZ : ClassId) (U : zU) (as : List Value) (σ : zV) (sz : Nat) : Array Value → State → Prop := va_Pc (as.map (zc q)) (fun T => T.heap.size = sz ∧ zB D q cI cZ U σ (fun _ => True) T)
def zCalls (l : Launch) (D : va_G) (q : Nat → Nat) (cI cZ : ClassId) (U : zU) (R : Room) (call : zC) : Prop := ∀ y as σ Q, call y as σ Q → ∃ cc nL ret rm, zkG y = some (cc, nL, ret) ∧ rm.frames + 1 ≤ R.frames ∧ 8 + (nL + 11) + rm.locals ≤ R.locals ∧ rm.cells = 0 ∧ rm.slots = 0 ∧
  ∀ sz, Met l y (.code y cc nL ret :: zTs) rm (zPre D q cI cZ U as σ sz) (zPost D q cI cZ U Q (va_A (zW q cI cZ U σ) sz)) 0 0 (va_A (zW q cI cZ U σ) sz)
theorem zPre_blind {D : va_G} {q : Nat → Nat} {cI cZ : ClassId} {U : zU} {as : List Value} {σ : zV} {sz : Nat} : FrameBlind (zPre D q cI cZ U as σ sz) := by
  intro a V g mk h
  obtain ⟨h1, h2, h3, h4, h5, h6⟩ := h
  exact ⟨h1, h2, h3, va_K.moved (u := V) (U := V.calling g mk a) (Vm.Alike.refl V.vm) h4, h5, fun w hw hn => va_Nw.same (zisN_on hn) (u := V) (U := V.calling g mk a) rfl (h6 w hw hn)⟩
theorem zNames_ok : vwCl.map (fun x => x.1) = zNames := by decide +kernel
theorem zNames_at {ci : Nat} {C : String} (h : zNames[ci]? = some C) : ∃ x, vwCl[ci]? = some x ∧ x.1 = C := by
  rw [← zNames_ok, List.getElem?_map] at h
  cases hx : vwCl[ci]? with
  | none => rw [hx] at h; cases h
  | some x => rw [hx] at h; exact ⟨x, rfl, Option.some.inj h⟩
theorem zty (ci : Nat) (x : vw_C) (h : vwCl[ci]? = some x) : ∃ ty0 : Nat → FieldType, (∀ k, k < x.2.2 → parseFieldDescriptor (x.2.1 k).2.2.1 = some (ty0 k)) ∧ (∀ a, a < x.2.2 → ∀ b, b < x.2.2 → a ≠ b → (x.2.1 a).2.1 ≠ (x.2.1 b).2.1) := by
  match ci, h with
  | 0, h => cases h; exact ⟨tyX0, tyX0_ok, nmX0⟩
  | 1, h => cases h; exact ⟨tyX1, tyX1_ok, nmX1⟩
  | 2, h => cases h; exact ⟨tyX2, tyX2_ok, nmX2⟩
  | 3, h => cases h; exact ⟨tyX3, tyX3_ok, nmX3⟩
  | 4, h => cases h; exact ⟨tyX4, tyX4_ok, nmX4⟩
  | 5, h => cases h; exact ⟨tyX5, tyX5_ok, nmX5⟩
  | 6, h => cases h; exact ⟨tyX6, tyX6_ok, nmX6⟩
  | k + 7, h => simp [vwCl] at h
section ZS
variable {p : Program} {l : Launch} {e : Env} {R : Room} {s : State} {m : MethodId} {args : Array Value} {below : List Frame} {meth : Method} {c : Code} {H : Heap} {locs : List Loc} {cells slots : Nat} {Z : State → Prop}
variable {cc : ByteArray} {nL : Nat} {ret : Option FieldType} {own : String} {D : va_G} {q : Nat → Nat} {cI cZ : ClassId} {A : Nat → Prop} {U : zU} {scr : zS} {call : zC} {Q : zQ}
/-- behind a call -/
theorem zback {pc : Nat} {lsA : Array Slot} {st0 rest : List Value} {σ : zV} {Q1 : zQ} {a : Array Value} (hr : va_Run p l e R s m args below meth c H locs cells slots 0 0 (F0 m pc lsA st0) rest (zPost D q cI cZ U Q1 (va_A (zW q cI cZ U σ) H.size) a) (va_A (zW q cI cZ U σ) H.size))
    (hD : va_D A (zW q cI cZ U σ)) (hS : va_S A s.heap H locs) (hA : ∀ q, s.heap.size ≤ q → A q)
    (kk : ∀ (v : Option Value) (σ' : zV) (H1 : Heap) (locs1 : List Loc), Q1 v σ' → va_P D vwCl (zW q cI cZ U σ') H1 → va_D A (zW q cI cZ U σ') → va_S A s.heap H1 locs1 → W p l e R s m args below meth c H1 locs1 cells slots Z (F0 m (pc + 3) lsA ((v.map (zc q)).toList ++ rest))) : W p l e R s m args below meth c H locs cells slots Z (F0 m pc lsA st0) := by
  have hf : ∀ x, va_A (zW q cI cZ U σ) H.size x → A x := by
    intro x h
    rcases h with ⟨k, e, h⟩ | h
    · exact hD.2 k (x, e) h
    · exact hA x (Nat.le_trans hS.1 h)
  intro T hT X
  obtain ⟨v, st₀, t, T', L, h0, X', hL, e1, e2, ⟨⟨v', σ', hv, hq, hP, hD1⟩, hz, hk⟩, st⟩ := hr T hT X
  cases hv
  rw [h0] at hz hk
  obtain ⟨t2, a1, b1⟩ := kk v' σ' T'.heap (locs ++ L) hq (by rw [e1]; exact hP) (hD1.weaken (fun _ _ _ h => hf _ h))
    ⟨Nat.le_trans hS.1 (by rw [e1]; exact hz), fun x h1 h2 => by rw [e1, hk x (Nat.lt_of_lt_of_le h1 hS.1) (fun z => h2 (hf x z))]; exact hS.2.1 x h1 h2, fun x hx => by
      rcases List.mem_append.mp hx with h | h
      · exact hS.2.2 x h
      · exact hf _ (hL x h)⟩ T' rfl X'
  exact ⟨t2, st t2 a1, b1⟩
/-- what stays the same in a method -/
def zFix (p : Program) (l : Launch) (R : Room) (s : State) (m : MethodId) (args : Array Value) (c : Code) (cells slots : Nat) (cc : ByteArray) (nL : Nat) (own : String) (D : va_G) (q : Nat → Nat) (cI cZ : ClassId) (A : Nat → Prop) (U : zU) (scr : zS) (call : zC) : Prop :=
  p.tables.exec = Jvm.exec ∧ c.code = cc ∧ c.maxLocals = nL ∧ s.vm.findClass own = some m.cls ∧ (∀ w ∈ zTs, w.before args s = true) ∧ zNw s ∧ va_K D vwCl (zTy cI cZ) s ∧ (∀ q, s.heap.size ≤ q → A q) ∧ cells ≤ R.cells ∧ slots ≤ R.slots ∧ 1 ≤ R.frames ∧ 36 ≤ R.locals ∧ zCalls l D q cI cZ U R call ∧ (∀ k L xs, scr = some (k, L, xs) → va_X (q k) L xs s s.heap ∧ q k < s.heap.size ∧ ¬ A (q k))
def zEnd (p : Program) (l : Launch) (e : Env) (R : Room) (s : State) (m : MethodId) (args : Array Value) (below : List Frame) (meth : Method) (c : Code) (cells slots : Nat) (Z : State → Prop) (cc : ByteArray) (ret : Option FieldType) (D : va_G) (q : Nat → Nat) (cI cZ : ClassId) (A : Nat → Prop) (U : zU) (Q : zQ) : Prop :=
  ∀ (H : Heap) (locs : List Loc) (pc : Nat) (lsA : Array Slot) (σ : zV), va_P D vwCl (zW q cI cZ U σ) H → va_D A (zW q cI cZ U σ) → va_S A s.heap H locs →
    (∀ v ty, decode cc pc = .ok (.ireturn, 1) → ret = some ty → narrow ty (.int v) = .int v → Q (some (.int v)) σ → W p l e R s m args below meth c H locs cells slots Z (F0 m pc lsA [.int v])) ∧
    (∀ v, decode cc pc = .ok (.lreturn, 1) → ret = some .long → Q (some (.long v)) σ → W p l e R s m args below meth c H locs cells slots Z (F0 m pc lsA [.long v])) ∧
    (decode cc pc = .ok (.return_, 1) → ret = none → Q none σ → W p l e R s m args below meth c H locs cells slots Z (F0 m pc lsA []))
theorem zcat_q {r : List Value} (h : zcat r) : ((r.map (zc q)).map fun v => v.category).sum ≤ 8 := by
  rw [List.map_map]
  have : ((fun v : Value => v.category) ∘ zc q) = fun v => v.category := funext fun v => zc_cat q v
  rw [this]
  exact h
theorem zPre_of {as : List Value} {σ : zV} (hP : va_P D vwCl (zW q cI cZ U σ) H) (hD : va_D A (zW q cI cZ U σ)) (hK : va_K D vwCl (zTy cI cZ) s) (hN : zNw s) : ∀ T : State, T.heap = H → s.WarmedH T.vm → zPre D q cI cZ U as σ H.size (as.map (zc q)).toArray T :=
  fun T hT hW => ⟨rfl, by rw [hT], by rw [hT]; exact hP, va_K.moved hW.alike hK, hD.weaken (fun _ _ _ _ => trivial), zNw_warm hN hW⟩
theorem zgood {y : MethodName} {cc' : ByteArray} {nL' : Nat} {ret' : Option FieldType} (h : .code y cc' nL' ret' ∈ zTs) : GoodIn zTs (.code y cc' nL' ret' :: zTs) := by
  intro w hw
  rcases List.mem_cons.mp hw with rfl | hw
  · exact zTs_good _ h
  · exact zTs_good _ hw
theorem zgoodA {a b : List Jvm.Cond} (ha : GoodIn zTs a) (hb : GoodIn zTs b) : GoodIn zTs (a ++ b) := fun w h => (List.mem_append.mp h).elim (ha w) (hb w)
theorem zgoodL {ws : List Cond} (h : ∀ w ∈ ws, w ∈ zTs) : GoodIn zTs ws := fun w hw => zTs_good _ (h w hw)
set_option maxHeartbeats 8000000 in
set_option maxRecDepth 100000 in
theorem zsound (F : zFix p l R s m args c cells slots cc nL own D q cI cZ A U scr call) (E : zEnd p l e R s m args below meth c cells slots Z cc ret D q cI cZ A U Q) : ∀ pc ls st σ, zEv U call own cc nL ret scr Q pc ls st σ → ∀ (lsA : Array Slot) (H : Heap) (locs : List Loc), lv_has lsA nL (zl q 0 ls) → va_P D vwCl (zW q cI cZ U σ) H → va_D A (zW q cI cZ U σ) → va_S A s.heap H locs → W p l e R s m args below meth c H locs cells slots Z (F0 m pc lsA (st.map (zc q))) := by
  intro pc ls st σ h
  refine h (fun pc ls st σ => ∀ (lsA : Array Slot) (H : Heap) (locs : List Loc), lv_has lsA nL (zl q 0 ls) → va_P D vwCl (zW q cI cZ U σ) H → va_D A (zW q cI cZ U σ) → va_S A s.heap H locs → W p l e R s m args below meth c H locs cells slots Z (F0 m pc lsA (st.map (zc q)))) ?_
  clear h
  intro pc ls st σ hstep lsA H locs hl hP hD hS
  obtain ⟨hx, hb, hml, hown, hts, hN, hK, hA, hcl, hsl, hfr, hlo, hC, hX⟩ := id F
  obtain ⟨i, len, hd, hz⟩ := hstep
  cases i with
  | iload_n k =>
    obtain ⟨rfl, x, h1, h2⟩ := hz
    exact lv_iload_n hx hb hd rfl (zl_at hl h1 (by simp)) (h2 lsA H locs hl hP hD hS)
  | iload k =>
    obtain ⟨rfl, x, h1, h2⟩ := hz
    exact lv_iload hx hb hd (zl_at hl h1 (by simp)) (h2 lsA H locs hl hP hD hS)
  | lload_n k =>
    obtain ⟨rfl, x, h1, h2⟩ := hz
    exact lv_lload_n hx hb hd rfl (zl_at hl h1 (by simp)) (h2 lsA H locs hl hP hD hS)
  | lload k =>
    obtain ⟨rfl, x, h1, h2⟩ := hz
    exact lv_lload hx hb hd (zl_at hl h1 (by simp)) (h2 lsA H locs hl hP hD hS)
  | aload_n k =>
    obtain ⟨rfl, x, h1, h2⟩ := hz
    exact lv_aload_n hx hb hd rfl (zl_at hl h1 (by simp)) (h2 lsA H locs hl hP hD hS)
  | istore_n k =>
    obtain ⟨rfl, x, r, rfl, h1, h2, h3⟩ := hz
    exact lv_istore_n hx hb hd rfl hl h1 rfl (fun ls' hl' => h3 ls' H locs (zl_set1 (by simp) h2 hl') hP hD hS)
  | istore k =>
    obtain ⟨rfl, x, r, rfl, h1, h2, h3⟩ := hz
    exact lv_istore hx hb hd hl h1 rfl (fun ls' hl' => h3 ls' H locs (zl_set1 (by simp) h2 hl') hP hD hS)
  | lstore_n k =>
    obtain ⟨rfl, x, r, rfl, h1, h2, h3⟩ := hz
    exact lv_lstore_n hx hb hd rfl hl h1 rfl (fun ls' hl' => h3 ls' H locs (zl_set2 (by simp) h2 hl') hP hD hS)
  | lstore k =>
    obtain ⟨rfl, x, r, rfl, h1, h2, h3⟩ := hz
    exact lv_lstore hx hb hd hl h1 rfl (fun ls' hl' => h3 ls' H locs (zl_set2 (by simp) h2 hl') hP hD hS)
  | iinc k n =>
    obtain ⟨rfl, x, h0, h1, h2, h3⟩ := hz
    obtain ⟨j, hj⟩ := List.getElem?_of_mem (zl_mem.mpr ⟨k, .int x, h0, by simp, rfl⟩ : ((0 + k, zc q (.int x)) : Nat × Value) ∈ zl q 0 ls)
    rw [Nat.zero_add] at hj
    exact lv_iinc hx hb hd hl hj rfl h1 rfl (fun ls' hl' => h3 ls' H locs (zl_set1 (by simp) h2 hl') hP hD hS)
  | iconst n =>
    obtain ⟨rfl, h2⟩ := hz
    exact lv_iconst hx hb hd rfl (h2 lsA H locs hl hP hD hS)
  | bipush n =>
    obtain ⟨rfl, h2⟩ := hz
    exact lv_bipush hx hb hd rfl (h2 lsA H locs hl hP hD hS)
  | sipush n =>
    obtain ⟨rfl, h2⟩ := hz
    exact lv_sipush hx hb hd rfl (h2 lsA H locs hl hP hD hS)
  | ldc_w idx =>
    obtain ⟨rfl, v, h1, h2⟩ := hz
    exact lv_ldcw hx hb hown (hts _ (zcG_ok h1)) hd (h2 lsA H locs hl hP hD hS)
  | ldc2_w idx =>
    obtain ⟨rfl, v, h1, h2⟩ := hz
    exact lv_ldc2 hx hb hown (hts _ (zlG_ok h1)) hd (h2 lsA H locs hl hP hD hS)
  | iadd =>
    obtain ⟨rfl, x, y, r, rfl, h2⟩ := hz
    exact lv_iadd hx hb hd (h2 lsA H locs hl hP hD hS)
  | isub =>
    obtain ⟨rfl, x, y, r, rfl, h2⟩ := hz
    exact lv_isub hx hb hd (h2 lsA H locs hl hP hD hS)
  | imul =>
    obtain ⟨rfl, x, y, r, rfl, h2⟩ := hz
    exact lv_imul hx hb hd (h2 lsA H locs hl hP hD hS)
  | iand =>
    obtain ⟨rfl, x, y, r, rfl, h2⟩ := hz
    exact lv_iand hx hb hd (h2 lsA H locs hl hP hD hS)
  | ior =>
    obtain ⟨rfl, x, y, r, rfl, h2⟩ := hz
    exact lv_ior hx hb hd (h2 lsA H locs hl hP hD hS)
  | ixor =>
    obtain ⟨rfl, x, y, r, rfl, h2⟩ := hz
    exact lv_ixor hx hb hd (h2 lsA H locs hl hP hD hS)
  | ishl =>
    obtain ⟨rfl, x, y, r, rfl, h2⟩ := hz
    exact lv_ishl hx hb hd (h2 lsA H locs hl hP hD hS)
  | ladd =>
    obtain ⟨rfl, x, y, r, rfl, h2⟩ := hz
    exact lv_ladd hx hb hd (h2 lsA H locs hl hP hD hS)
  | lmul =>
    obtain ⟨rfl, x, y, r, rfl, h2⟩ := hz
    exact lv_lmul hx hb hd (h2 lsA H locs hl hP hD hS)
  | iushr =>
    obtain ⟨rfl, x, y, r, rfl, h2⟩ := hz
    exact lv_iushr hx hb hd rfl (h2 lsA H locs hl hP hD hS)
  | lcmp =>
    obtain ⟨rfl, x, y, r, rfl, h2⟩ := hz
    exact W.lcmp hx hb hd (h2 lsA H locs hl hP hD hS)
  | i2l =>
    obtain ⟨rfl, x, r, rfl, h2⟩ := hz
    exact lv_i2l hx hb hd rfl (h2 lsA H locs hl hP hD hS)
  | dup =>
    obtain ⟨rfl, v, r, rfl, h1, h2⟩ := hz
    exact lv_dup hx hb hd (by rw [zc_cat]; exact h1) (h2 lsA H locs hl hP hD hS)
  | dup2 =>
    obtain ⟨rfl, v, w, r, rfl, h1, h1', h2⟩ := hz
    exact lv_dup2_11 hx hb hd (by rw [zc_cat]; exact h1) (by rw [zc_cat]; exact h1') (h2 lsA H locs hl hP hD hS)
  | pop =>
    obtain ⟨rfl, v, r, rfl, h1, h2⟩ := hz
    exact lv_pop hx hb hd (by rw [zc_cat]; exact h1) (h2 lsA H locs hl hP hD hS)
  | goto off =>
    obtain ⟨rfl, t, ht, h2⟩ := hz
    exact lv_goto hx hb hd ht (h2 lsA H locs hl hP hD hS)
  | ifCond cd off =>
    obtain ⟨rfl, x, r, t, rfl, ht, h1, h2⟩ := hz
    cases cd with
    | eq => exact lv_if_eq hx hb hd ht (fun z => h1 z lsA H locs hl hP hD hS) (fun z => h2 (z) lsA H locs hl hP hD hS)
    | ne => exact lv_if_ne hx hb hd ht (fun z => h1 z lsA H locs hl hP hD hS) (fun z => h2 (fun w => w z) lsA H locs hl hP hD hS)
    | lt => exact lv_if_lt hx hb hd ht (fun z => h1 z lsA H locs hl hP hD hS) (fun z => h2 (z) lsA H locs hl hP hD hS)
    | ge => exact lv_if_ge hx hb hd ht (fun z => h1 z lsA H locs hl hP hD hS) (fun z => h2 (z) lsA H locs hl hP hD hS)
    | gt => exact lv_if_gt hx hb hd ht (fun z => h1 z lsA H locs hl hP hD hS) (fun z => h2 (z) lsA H locs hl hP hD hS)
    | le => exact lv_if_le hx hb hd ht (fun z => h1 z lsA H locs hl hP hD hS) (fun z => h2 (z) lsA H locs hl hP hD hS)
  | if_icmp cd off =>
    obtain ⟨rfl, x, y, r, t, rfl, ht, h1, h2⟩ := hz
    cases cd with
    | eq => exact lv_icmp_eq hx hb hd ht (fun z => h1 z lsA H locs hl hP hD hS) (fun z => h2 (z) lsA H locs hl hP hD hS)
    | ne => exact lv_icmp_ne hx hb hd ht (fun z => h1 z lsA H locs hl hP hD hS) (fun z => h2 (fun w => w z) lsA H locs hl hP hD hS)
    | lt => exact lv_icmp_lt hx hb hd ht (fun z => h1 z lsA H locs hl hP hD hS) (fun z => h2 (z) lsA H locs hl hP hD hS)
    | ge => exact lv_icmp_ge hx hb hd ht (fun z => h1 z lsA H locs hl hP hD hS) (fun z => h2 (z) lsA H locs hl hP hD hS)
    | gt => exact lv_icmp_gt hx hb hd ht (fun z => h1 z lsA H locs hl hP hD hS) (fun z => h2 (z) lsA H locs hl hP hD hS)
    | le => exact lv_icmp_le hx hb hd ht (fun z => h1 z lsA H locs hl hP hD hS) (fun z => h2 (z) lsA H locs hl hP hD hS)
  | tableswitch dflt lo hi offs =>
    obtain ⟨x, r, t, rfl, ht, h1, h2⟩ := hz
    by_cases h3 : x.toInt < lo
    · exact lv_tableOut hx hb hd (Or.inl h3) ht (h1 (Or.inl h3) lsA H locs hl hP hD hS)
    · by_cases h4 : hi < x.toInt
      · exact lv_tableOut hx hb hd (Or.inr h4) ht (h1 (Or.inr h4) lsA H locs hl hP hD hS)
      · obtain ⟨off, t2, h5, h6, h7⟩ := h2 h3 h4
        exact lv_tableIn hx hb hd h3 h4 h5 h6 (h7 lsA H locs hl hP hD hS)
  | getfield idx =>
    obtain ⟨rfl, a, r, ci, k, w, n, fs, rfl, hf, hU, h2⟩ := hz
    obtain ⟨pi, hok⟩ := zfG_ok hf
    unfold zfOk at hok
    dsimp only at hok
    split at hok
    · rename_i C T N hcl
      simp only [Bool.and_eq_true, decide_eq_true_eq] at hok
      obtain ⟨⟨hkN, hlink⟩, -⟩ := hok
      have he := zW_get (q := q) (cI := cI) (cZ := cZ) (σ := σ) hU
      have go : ∀ v : Value, ((fs.mapIdx fun j f => match f with
        | some r => Value.ref (q r)
        | none => Value.int (σ a j))[k]? = some v) → W p l e R s m args below meth c H locs cells slots Z (F0 m (pc + 3) lsA (v :: r.map (zc q))) → W p l e R s m args below meth c H locs cells slots Z (F0 m pc lsA (.ref (q a) :: r.map (zc q))) := by
        intro v hv kk
        cases n with
        | true =>
          rw [if_pos rfl] at hlink
          exact va_getN hx hb hts (zinX ci _ hcl) hown hK hP a he hcl k hkN (va_Nw.use rfl (hN _ (zTn_of (by simpa using hlink)) rfl)) (fun x h => h) hv hd kk
        | false =>
          rw [if_neg (by decide)] at hlink
          exact va_get hx hb hts (zinX ci _ hcl) hown hK hP a he hcl k hkN (hts _ (zTs_of hlink)) (fun x h => h) hv hd kk
      rcases h2 with ⟨b, h3, h4⟩ | ⟨h3, h4⟩
      · exact go (.ref (q b)) (by rw [List.getElem?_mapIdx, h3]; rfl) (h4 lsA H locs hl hP hD hS)
      · exact go (.int (σ a k)) (by rw [List.getElem?_mapIdx, h3]; rfl) (h4 lsA H locs hl hP hD hS)
    · cases hok
  | putfield idx =>
    obtain ⟨rfl, x, a, r, ci, k, fs, rfl, hf, hU, h3, h2⟩ := hz
    obtain ⟨pi, hok⟩ := zfG_ok hf
    unfold zfOk at hok
    dsimp only at hok
    split at hok
    · rename_i C T N hcl
      simp only [Bool.and_eq_true, decide_eq_true_eq, Bool.not_true, Bool.false_or] at hok
      obtain ⟨⟨hkN, hlink⟩, hI, hfin⟩ := hok
      rw [if_neg (by decide)] at hlink
      have he := zW_get (q := q) (cI := cI) (cZ := cZ) (σ := σ) hU
      obtain ⟨ty0, hty, hnm⟩ := zty ci _ hcl
      have e1 := zW_set (q := q) (cI := cI) (cZ := cZ) (σ' := zput σ a k x) hU (fun j hj => zput_off j hj)
      rw [zE_put_f h3] at e1
      refine va_put hx hb hts (zinX ci _ hcl) ty0 hty hnm hown hK hP hD hS a he hcl k hkN (hts _ (zTs_of hlink)) (fun x h => h) hfin (ty := .int) (by rw [hI]; decide +kernel) rfl rfl (by rw [List.length_mapIdx]; exact (List.getElem?_eq_some_iff.mp h3).1) hd (fun H1 locs1 hP1 hD1 hS1 => ?_)
      rw [show zc q (.int x) = .int x from rfl, e1] at hP1 hD1
      exact h2 lsA H1 locs1 hl hP1 hD1 hS1
    · cases hok
  | iaload =>
    obtain ⟨rfl, j, a, r, rfl, h2⟩ := hz
    rcases h2 with ⟨n, hU, hin, h3⟩ | ⟨L, xs, hU, hsc, hin, h3⟩
    · have he : (zW q cI cZ U σ)[a]? = some (q a, .inl (cI, n, .inl (σ a))) := zW_get hU
      exact va_iald hx hb hK hP a 0 he rfl hin hd (h3 lsA H locs hl hP hD hS)
    · obtain ⟨g1, g2, g3⟩ := hX _ _ _ hsc
      exact va_sld hx hb g1 g2 g3 hS hin hd (h3 lsA H locs hl hP hD hS)
  | baload =>
    obtain ⟨rfl, j, a, r, n, rfl, hU, hin, h3⟩ := hz
    have he : (zW q cI cZ U σ)[a]? = some (q a, .inl (cZ, n, .inl (σ a))) := zW_get hU
    exact va_zald hx hb hK hP a 1 he rfl hin hd (h3 lsA H locs hl hP hD hS)
  | iastore =>
    obtain ⟨rfl, x, j, a, r, n, rfl, hU, hin, h3⟩ := hz
    have he : (zW q cI cZ U σ)[a]? = some (q a, .inl (cI, n, .inl (σ a))) := zW_get hU
    have e1 := zW_set (q := q) (cI := cI) (cZ := cZ) (σ' := zput σ a j.toNatClampNeg x) hU (fun j hj => zput_off j hj)
    rw [zE_put_a] at e1
    refine va_iast hx hb hK hP hD hS a 0 he rfl hin hd (fun H1 locs1 hP1 hD1 hS1 => ?_)
    rw [show (zW q cI cZ U σ).set a (q a, .inl (cI, n, .inl (upd (σ a) j.toNatClampNeg x))) = zW q cI cZ U (zput σ a j.toNatClampNeg x) from e1] at hP1 hD1
    exact h3 lsA H1 locs1 hl hP1 hD1 hS1
  | bastore =>
    obtain ⟨rfl, x, j, a, r, n, rfl, hU, hin, h3⟩ := hz
    have he : (zW q cI cZ U σ)[a]? = some (q a, .inl (cZ, n, .inl (σ a))) := zW_get hU
    have e1 := zW_set (q := q) (cI := cI) (cZ := cZ) (σ' := zput σ a j.toNatClampNeg (vp_nar .boolean x)) hU (fun j hj => zput_off j hj)
    rw [zE_put_a] at e1
    refine va_zast hx hb hK hP hD hS a 1 he rfl hin hd (fun H1 locs1 hP1 hD1 hS1 => ?_)
    rw [show (zW q cI cZ U σ).set a (q a, .inl (cZ, n, .inl (upd (σ a) j.toNatClampNeg (vp_nar .boolean x)))) = zW q cI cZ U (zput σ a j.toNatClampNeg (vp_nar .boolean x)) from e1] at hP1 hD1
    exact h3 lsA H1 locs1 hl hP1 hD1 hS1
  | arraylength =>
    obtain ⟨rfl, a, r, rfl, h2⟩ := hz
    rcases h2 with ⟨b, n, hU, h3⟩ | ⟨L, xs, hU, hsc, h3⟩
    · cases b with
      | true =>
        have he : (zW q cI cZ U σ)[a]? = some (q a, .inl (cZ, n, .inl (σ a))) := zW_get hU
        exact va_alen hx hb hK hP a 1 he rfl rfl hd (h3 lsA H locs hl hP hD hS)
      | false =>
        have he : (zW q cI cZ U σ)[a]? = some (q a, .inl (cI, n, .inl (σ a))) := zW_get hU
        exact va_alen hx hb hK hP a 0 he rfl rfl hd (h3 lsA H locs hl hP hD hS)
    · obtain ⟨g1, g2, g3⟩ := hX _ _ _ hsc
      exact va_slen hx hb g1 g2 g3 hS hd (h3 lsA H locs hl hP hD hS)
  | ireturn =>
    obtain ⟨rfl, v, ty, rfl, h1, h2, h3⟩ := hz
    exact (E H locs pc lsA σ hP hD hS).1 v ty hd h1 h2 h3
  | lreturn =>
    obtain ⟨rfl, v, rfl, h1, h3⟩ := hz
    exact (E H locs pc lsA σ hP hD hS).2.1 v hd h1 h3
  | return_ =>
    obtain ⟨rfl, rfl, h1, h3⟩ := hz
    exact (E H locs pc lsA σ hP hD hS).2.2 hd h1 h3
  | invokevirtual idx =>
    obtain ⟨rfl, y, k, a, r, As, ci, fs, hm, hk, rfl, hU, hnm, hcat, hcall⟩ := hz
    obtain ⟨pi, hok⟩ := zmG_ok hm
    obtain ⟨cc', nL', ret', rm, hkG, r1, r2, r3, r4, hM⟩ := hC y _ σ _ hcall
    obtain ⟨hcw, hpl, hn16⟩ := zkG_ok hkG
    obtain ⟨x, hcl', hxn⟩ := zNames_at hnm
    have hrecv := va_recv hK hP hcl' (zW_get (q := q) (cI := cI) (cZ := cZ) (σ := σ) hU)
    rw [hxn] at hrecv
    have hpre : PreV s H y.cls (q a) (zPre D q cI cZ U (.ref a :: As) σ H.size) (As.map (zc q)) := ⟨zPre_blind, hrecv, zPre_of hP hD hK hN⟩
    have hst : (F0 m pc lsA ((As.reverse ++ Value.ref a :: r).map (zc q))).stack = (As.map (zc q)).reverse ++ .ref (q a) :: r.map (zc q) := by simp [zc]
    have hlast : ∀ (v : Option Value) (σ' : zV) (H1 : Heap) (locs1 : List Loc), (∀ (lsA : Array Slot) (H : Heap) (locs : List Loc), lv_has lsA nL (zl q 0 ls) → va_P D vwCl (zW q cI cZ U σ') H → va_D A (zW q cI cZ U σ') → va_S A s.heap H locs → W p l e R s m args below meth c H locs cells slots Z (F0 m (pc + 3) lsA ((v.toList ++ r).map (zc q)))) → va_P D vwCl (zW q cI cZ U σ') H1 → va_D A (zW q cI cZ U σ') → va_S A s.heap H1 locs1 → W p l e R s m args below meth c H1 locs1 cells slots Z (F0 m (pc + 3) lsA ((v.map (zc q)).toList ++ r.map (zc q))) := by
      intro v σ' H1 locs1 h hP1 hD1 hS1
      have h1 := h lsA H1 locs1 hl hP1 hD1 hS1
      cases v <;> exact h1
    unfold zmOk at hok
    dsimp only at hok
    simp only [Bool.and_eq_true, decide_eq_true_eq] at hok
    obtain ⟨⟨⟨hy1, hy2⟩, hpd, hini⟩, hok⟩ := hok
    have hini' := zTs_of hini
    match k, hk, hok with
    | 0, _, hok =>
      simp only [Bool.and_eq_true] at hok
      obtain ⟨⟨g1, g2⟩, g3⟩ := hok
      have hG : GoodIn zTs (wsV own idx y.cls y (.code y cc' nL' ret' :: zTs)) := zgoodA (zgoodL (by
        intro w hw
        simp only [List.mem_cons, List.not_mem_nil, or_false] at hw
        rcases hw with rfl | rfl | rfl | rfl
        · exact zTs_of g1
        · exact zTs_of g2
        · exact zTs_of g3
        · exact hini')) (zgood hcw)
      exact zback (va_runV (As := As.map (zc q)) (rest := r.map (zc q)) ⟨hx, hb, hml, hown, hts⟩ (hM H.size) (cwV As.length hts hG rfl r3 r4 ⟨rfl, hy1, hy2, hpd⟩ ⟨r1, r2⟩) hpre rfl (by simp) hl.1 hst (lv_room (zcat_q hcat)) hd ⟨hcl, hsl⟩) hD hS hA hlast
    | 1, _, hok =>
      simp only [Bool.and_eq_true] at hok
      obtain ⟨⟨g1, g2⟩, g3⟩ := hok
      exact zback (va_runVN (As := As.map (zc q)) (rest := r.map (zc q)) ⟨hx, hb, hml, hown, hts⟩ (hM H.size) ⟨va_cnB As.length hts (zgood hcw) rfl r3 r4 (hN _ (zTn_of g1) rfl) (hts _ hini') ⟨hy1, hy2, hpd⟩ ⟨r1, r2⟩, hts _ (zTs_of g2), hts _ (zTs_of g3)⟩ hpre rfl (by simp) hl.1 hst (lv_room (zcat_q hcat)) hd ⟨hcl, hsl⟩) hD hS hA hlast
  | invokestatic idx =>
    obtain ⟨rfl, h2⟩ := hz
    rcases h2 with ⟨y, r, As, hm, rfl, hcat, hcall⟩ | ⟨y, a, a0, n0, n1, sp, dp, n, r, hm, rfl, hcat, hU0, hU1, z1, z2, z3, z4, z5, h3⟩ | ⟨y, x1, x2, r, hm, rfl, hcat, h3⟩
    · obtain ⟨pi, hok⟩ := zmG_ok hm
      obtain ⟨cc', nL', ret', rm, hkG, r1, r2, r3, r4, hM⟩ := hC y _ σ _ hcall
      obtain ⟨hcw, hpl, hn16⟩ := zkG_ok hkG
      have hpre : PreS s H (zPre D q cI cZ U As σ H.size) (As.map (zc q)) := ⟨zPre_blind, zPre_of hP hD hK hN⟩
      have hst : (F0 m pc lsA ((As.reverse ++ r).map (zc q))).stack = (As.map (zc q)).reverse ++ r.map (zc q) := by simp
      have hlast : ∀ (v : Option Value) (σ' : zV) (H1 : Heap) (locs1 : List Loc), (∀ (lsA : Array Slot) (H : Heap) (locs : List Loc), lv_has lsA nL (zl q 0 ls) → va_P D vwCl (zW q cI cZ U σ') H → va_D A (zW q cI cZ U σ') → va_S A s.heap H locs → W p l e R s m args below meth c H locs cells slots Z (F0 m (pc + 3) lsA ((v.toList ++ r).map (zc q)))) → va_P D vwCl (zW q cI cZ U σ') H1 → va_D A (zW q cI cZ U σ') → va_S A s.heap H1 locs1 → W p l e R s m args below meth c H1 locs1 cells slots Z (F0 m (pc + 3) lsA ((v.map (zc q)).toList ++ r.map (zc q))) := by
        intro v σ' H1 locs1 h hP1 hD1 hS1
        have h1 := h lsA H1 locs1 hl hP1 hD1 hS1
        cases v <;> exact h1
      unfold zmOk at hok
      dsimp only at hok
      simp only [Bool.and_eq_true, decide_eq_true_eq] at hok
      obtain ⟨⟨⟨hy1, hy2⟩, hpd, hini⟩, g1, g2⟩ := hok
      have hini' := zTs_of hini
      have hG : GoodIn zTs (va_wsS own idx y (.code y cc' nL' ret' :: zTs)) := zgoodA (zgoodL (by
        intro w hw
        simp only [List.mem_cons, List.not_mem_nil, or_false] at hw
        rcases hw with rfl | rfl | rfl
        · exact zTs_of g1
        · exact zTs_of g2
        · exact hini')) (zgood hcw)
      exact zback (va_runS (As := As.map (zc q)) (rest := r.map (zc q)) ⟨hx, hb, hml, hown, hts⟩ (hM H.size) (va_cwS As.length hts hG rfl r3 r4 ⟨hy1, hy2, hpd⟩ ⟨r1, r2⟩) hpre rfl (by simp) hl.1 hst (lv_room (zcat_q hcat)) hd ⟨hcl, hsl⟩) hD hS hA hlast
    · obtain ⟨pi, hok⟩ := zmG_ok hm
      unfold zmOk at hok
      dsimp only at hok
      simp only [Bool.and_eq_true, decide_eq_true_eq] at hok
      obtain ⟨⟨⟨hy1, hy2⟩, hpd, hini⟩, ⟨⟨g0, g1⟩, g2⟩, g3⟩ := hok
      subst g0
      have he0 : (zW q cI cZ U σ)[a0]? = some (q a0, .inl (cI, n0, .inl (σ a0))) := zW_get hU0
      have he1 : (zW q cI cZ U σ)[a]? = some (q a, .inl (cI, n1, .inl (σ a))) := zW_get hU1
      have e1 := zW_set (q := q) (cI := cI) (cZ := cZ) (σ := σ) (σ' := va_up σ a (va_cpy (σ a0) (σ a) sp.toNatClampNeg dp.toNatClampNeg n.toNatClampNeg)) hU1 (fun j hj => by simp [va_up, hj])
      have e2 : zE q cI cZ (va_up σ a (va_cpy (σ a0) (σ a) sp.toNatClampNeg dp.toNatClampNeg n.toNatClampNeg)) a (.inl (false, n1)) = .inl (cI, n1, .inl (va_cpy (σ a0) (σ a) sp.toNatClampNeg dp.toNatClampNeg n.toNatClampNeg)) := by simp [zE, va_up]
      rw [e2] at e1
      have hroom : nativeFrameWords "java/lang/System" "arraycopy" 5 = 7 := by decide +kernel
      have hz8 : ((r.map (zc q)).map fun v => v.category).sum ≤ 8 := zcat_q hcat
      refine va_copyi hx hb (hml.trans hl.1.symm) hown (hts _ (zTs_of g1)) (hts _ (zTs_of g3)) (hts _ (zTs_of g2)) (hts _ (zTs_of hini)) hK hP hD hS a0 a 0 0 he0 he1 rfl rfl rfl z1 z2 z3 z4 z5 (fun _ _ => rfl) hfr (by rw [hroom]; omega) hd (fun H1 locs1 hP1 hD1 hS1 => ?_)
      rw [e1] at hP1 hD1
      exact h3 lsA H1 locs1 hl hP1 hD1 hS1
    · obtain ⟨pi, hok⟩ := zmG_ok hm
      unfold zmOk at hok
      dsimp only at hok
      simp only [Bool.and_eq_true, decide_eq_true_eq] at hok
      obtain ⟨⟨⟨hy1, hy2⟩, hpd, hini⟩, ⟨⟨g0, g1⟩, g2⟩, g3⟩ := hok
      subst g0
      have hz8 : ((r.map (zc q)).map fun v => v.category).sum ≤ 8 := zcat_q hcat
      exact va_mmax hx hb (hml.trans hl.1.symm) hown (hts _ (zTs_of g1)) (hts _ (zTs_of g2)) (hts _ (zTs_of hini)) (hts _ (zTs_of g3)) hfr (by omega) hcl hsl hd (h3 lsA H locs hl hP hD hS)
  | _ => exact False.elim hz
end ZS
/-- a method's call, as a contract -/
def zRm (d : Nat) : Room := { frames := d, cells := 0, slots := 0, locals := 36 * d }
set_option maxHeartbeats 4000000 in
theorem zmet (l : Launch) (D : va_G) (q : Nat → Nat) (cI cZ : ClassId) (U : zU) (d : Nat) : ∀ y as σ Q, zCall U d y as σ Q → ∃ cc nL ret, zkG y = some (cc, nL, ret) ∧ nL ≤ 16 ∧ ∀ sz, Met l y (.code y cc nL ret :: zTs) (zRm d) (zPre D q cI cZ U as σ sz) (zPost D q cI cZ U Q (va_A (zW q cI cZ U σ) sz)) 0 0 (va_A (zW q cI cZ U σ) sz) := by
  induction d with
  | zero => intro y as σ Q h; exact False.elim h
  | succ d ih =>
    intro y as σ Q h
    obtain ⟨cc, nL, ret, hk, hlen, hEv⟩ := h
    obtain ⟨hcw, hpl, hn16⟩ := zkG_ok hk
    refine ⟨cc, nL, ret, hk, hn16, fun sz => ?_⟩
    refine Met.ofW (cc := cc) (maxL := nL) (ret := ret) hpl rfl ?_
    intro p e s m args below meth c s₁ B hml hv
    obtain ⟨rfl, hsz, hP, hK, hD0, hN⟩ := hv
    have hts := atoms_spec (ws := .code y cc nL ret :: zTs) B.pre
    have hown : s.vm.findClass y.cls = some m.cls := findClass_of_methodNamed B.named
    subst hsz
    have hD := hD0.self (sz := s.heap.size)
    generalize hAe : va_A (zW q cI cZ U σ) s.heap.size = A at hD ⊢
    have hA : ∀ q : Nat, s.heap.size ≤ q → A q := fun q h => by rw [← hAe]; exact Or.inr h
    have hl := lv_entry (as.map (zc q)) (n := nL) (by rw [zia_len]; exact hlen)
    rw [lg_entry_eq]
    generalize (lg_sl (as.map (zc q)) ++ List.replicate (nL - (lg_sl (as.map (zc q))).length) Slot.unset).toArray = ls at hl ⊢
    have F : zFix p l (zRm (d + 1)) s m (as.map (zc q)).toArray c 0 0 cc nL y.cls D q cI cZ A U none (zCall U d) := by
      refine ⟨B.exec, B.bytes, hml, hown, fun w hw => hts w (List.mem_cons_of_mem _ hw), hN, hK, hA, Nat.le_refl _, Nat.le_refl _, ?_, ?_, ?_, fun k L xs h => by cases h⟩
      · show 1 ≤ d + 1
        omega
      · show 36 ≤ 36 * (d + 1)
        omega
      · intro y' as' σ' Q' h'
        obtain ⟨cc', nL', ret', g1, g2, g3⟩ := ih y' as' σ' Q' h'
        refine ⟨cc', nL', ret', zRm d, g1, Nat.le_refl _, ?_, rfl, rfl, g3⟩
        show 8 + (nL' + 11) + 36 * d ≤ 36 * (d + 1)
        omega
    have E : zEnd p l e (zRm (d + 1)) s m (as.map (zc q)).toArray below meth c 0 0 (MQ below (zPost D q cI cZ U Q A) (as.map (zc q)).toArray s 0 0 A) cc ret D q cI cZ A U Q := by
      intro H locs pc lsA σ' hP' hD' hS'
      have hlocks := B.notSynchronized
      refine ⟨fun v ty hd h1 h2 h3 => ?_, fun v hd h1 h3 => ?_, fun hd h1 h3 => ?_⟩
      · exact W.zret B.exec B.bytes (by rw [B.returns]; exact h1) h2 (fun t ht hW => ⟨⟨some (.int v), σ', rfl, h3, by rw [ht]; exact hP', hD'⟩, hS'.F ht⟩) hS'.2.2 hd
      · exact W.lret B.exec B.bytes (by rw [B.returns]; exact h1) (fun t ht hW => ⟨⟨some (.long v), σ', rfl, h3, by rw [ht]; exact hP', hD'⟩, hS'.F ht⟩) hS'.2.2 hd
      · exact W.vret B.exec B.bytes (by rw [B.returns]; exact h1) (fun t ht hW => ⟨⟨none, σ', rfl, h3, by rw [ht]; exact hP', hD'⟩, hS'.F ht⟩) hS'.2.2 hd
    exact zsound F E 0 (zin nL as) [] σ hEv ls s.heap [] (zin_has hl) hP hD va_S.rf
