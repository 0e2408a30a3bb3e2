/-! a run that comes to an end does so on the machine -/
def zNw (s : State) : Prop := ∀ w ∈ lw_tbl, zisN w = true → va_Nw w s
theorem zisN_on {w : Cond} (h : zisN w = true) : w.onTables = true := by cases w <;> first | rfl | (simp [zisN] at h)
theorem zNw_warm {s U : State} (h : zNw s) (hW : s.WarmedH U.vm) : zNw U := by
  intro w hw hn
  have h1 := h w hw hn
  cases w <;> first | exact va_Nw.warmF hW h1 | exact va_Nw.warmM hW h1 | (simp [zisN] at hn)
def zB (D : va_G) (q : Nat → Nat) (cI cZ : ClassId) (U : zU) (σ : zV) (A : Nat → Prop) (t : State) : Prop := va_P D vwCl (zW q cI cZ U σ) t.heap ∧ va_K D vwCl (zTy cI cZ) t ∧ va_D A (zW q cI cZ U σ) ∧ zNw t
def zPost (D : va_G) (q : Nat → Nat) (cI cZ : ClassId) (U : zU) (Q : zQ) (A : Nat → Prop) : Array Value → State → Outcome → State → Prop := fun _ st oc t => (∃ v σ', oc = .returned (v.map (zc q)) ∧ Q v σ' ∧ va_P D vwCl (zW q cI cZ U σ') t.heap ∧ va_D A (zW q cI cZ U σ')) ∧ va_F A st t
def zPre (D : va_G) (q : Nat → Nat) (cI cZ : ClassId) (U : zU) (as : List Value) (σ : zV) (sz : Nat) : Array Value → State → Prop := va_Pc (as.map (zc q)) (fun T => T.heap.size = sz ∧ zB D q cI cZ U σ (fun _ => True) T)
def zCalls (l : Launch) (D : va_G) (q : Nat → Nat) (cI cZ : ClassId) (U : zU) (R : Room) (call : zC) : Prop := ∀ y as σ Q, call y as σ Q → ∃ cc nL ret rm, zkG y = some (cc, nL, ret) ∧ rm.frames + 1 ≤ R.frames ∧ 8 + (nL + 11) + rm.locals ≤ R.locals ∧ rm.cells = 0 ∧ rm.slots = 0 ∧
  ∀ sz, Met l y (.code y cc nL ret :: zTs) rm (zPre D q cI cZ U as σ sz) (zPost D q cI cZ U Q (va_A (zW q cI cZ U σ) sz)) 0 0 (va_A (zW q cI cZ U σ) sz)
theorem zPre_blind {D : va_G} {q : Nat → Nat} {cI cZ : ClassId} {U : zU} {as : List Value} {σ : zV} {sz : Nat} : FrameBlind (zPre D q cI cZ U as σ sz) := by
  intro a V g mk h
  obtain ⟨h1, h2, h3, h4, h5, h6⟩ := h
  exact ⟨h1, h2, h3, va_K.moved (u := V) (U := V.calling g mk a) (Vm.Alike.refl V.vm) h4, h5, fun w hw hn => va_Nw.same (zisN_on hn) (u := V) (U := V.calling g mk a) rfl (h6 w hw hn)⟩
theorem zNames_ok : vwCl.map (fun x => x.1) = zNames := by decide +kernel
theorem zNames_at {ci : Nat} {C : String} (h : zNames[ci]? = some C) : ∃ x, vwCl[ci]? = some x ∧ x.1 = C := by
  rw [← zNames_ok, List.getElem?_map] at h
  cases hx : vwCl[ci]? with
  | none => rw [hx] at h; cases h
  | some x => rw [hx] at h; exact ⟨x, rfl, Option.some.inj h⟩
section ZS
variable {p : Program} {l : Launch} {e : Env} {R : Room} {s : State} {m : MethodId} {args : Array Value} {below : List Frame} {meth : Method} {c : Code} {H : Heap} {locs : List Loc} {cells slots : Nat} {Z : State → Prop}
variable {cc : ByteArray} {nL : Nat} {ret : Option FieldType} {own : String} {D : va_G} {q : Nat → Nat} {cI cZ : ClassId} {A : Nat → Prop} {U : zU} {scr : zS} {call : zC} {Q : zQ}
/-- behind a call -/
theorem zback {pc : Nat} {lsA : Array Slot} {st0 rest : List Value} {σ : zV} {Q1 : zQ} {a : Array Value} (hr : va_Run p l e R s m args below meth c H locs cells slots 0 0 (F0 m pc lsA st0) rest (zPost D q cI cZ U Q1 (va_A (zW q cI cZ U σ) H.size) a) (va_A (zW q cI cZ U σ) H.size))
    (hD : va_D A (zW q cI cZ U σ)) (hS : va_S A s.heap H locs) (hA : ∀ q, s.heap.size ≤ q → A q)
    (kk : ∀ (v : Option Value) (σ' : zV) (H1 : Heap) (locs1 : List Loc), Q1 v σ' → va_P D vwCl (zW q cI cZ U σ') H1 → va_D A (zW q cI cZ U σ') → va_S A s.heap H1 locs1 → W p l e R s m args below meth c H1 locs1 cells slots Z (F0 m (pc + 3) lsA ((v.map (zc q)).toList ++ rest))) : W p l e R s m args below meth c H locs cells slots Z (F0 m pc lsA st0) := by
  have hf : ∀ x, va_A (zW q cI cZ U σ) H.size x → A x := by
    intro x h
    rcases h with ⟨k, e, h⟩ | h
    · exact hD.2 k (x, e) h
    · exact hA x (Nat.le_trans hS.1 h)
  intro T hT X
  obtain ⟨v, st₀, t, T', L, h0, X', hL, e1, e2, ⟨⟨v', σ', hv, hq, hP, hD1⟩, hz, hk⟩, st⟩ := hr T hT X
  cases hv
  rw [h0] at hz hk
  obtain ⟨t2, a1, b1⟩ := kk v' σ' T'.heap (locs ++ L) hq (by rw [e1]; exact hP) (hD1.weaken (fun _ _ _ h => hf _ h))
    ⟨Nat.le_trans hS.1 (by rw [e1]; exact hz), fun x h1 h2 => by rw [e1, hk x (Nat.lt_of_lt_of_le h1 hS.1) (fun z => h2 (hf x z))]; exact hS.2.1 x h1 h2, fun x hx => by
      rcases List.mem_append.mp hx with h | h
      · exact hS.2.2 x h
      · exact hf _ (hL x h)⟩ T' rfl X'
  exact ⟨t2, st t2 a1, b1⟩
/-- what stays the same in a method -/
def zFix (p : Program) (l : Launch) (R : Room) (s : State) (m : MethodId) (args : Array Value) (c : Code) (cells slots : Nat) (cc : ByteArray) (nL : Nat) (own : String) (D : va_G) (q : Nat → Nat) (cI cZ : ClassId) (A : Nat → Prop) (U : zU) (scr : zS) (call : zC) : Prop :=
  p.tables.exec = Jvm.exec ∧ c.code = cc ∧ c.maxLocals = nL ∧ s.vm.findClass own = some m.cls ∧ (∀ w ∈ zTs, w.before args s = true) ∧ zNw s ∧ va_K D vwCl (zTy cI cZ) s ∧ (∀ q, s.heap.size ≤ q → A q) ∧ cells ≤ R.cells ∧ slots ≤ R.slots ∧ 1 ≤ R.frames ∧ 36 ≤ R.locals ∧ zCalls l D q cI cZ U R call ∧ (∀ k L xs, scr = some (k, L, xs) → va_X (q k) L xs s s.heap ∧ q k < s.heap.size ∧ ¬ A (q k))
def zEnd (p : Program) (l : Launch) (e : Env) (R : Room) (s : State) (m : MethodId) (args : Array Value) (below : List Frame) (meth : Method) (c : Code) (cells slots : Nat) (Z : State → Prop) (cc : ByteArray) (ret : Option FieldType) (D : va_G) (q : Nat → Nat) (cI cZ : ClassId) (A : Nat → Prop) (U : zU) (Q : zQ) : Prop :=
  ∀ (H : Heap) (locs : List Loc) (pc : Nat) (lsA : Array Slot) (σ : zV), va_P D vwCl (zW q cI cZ U σ) H → va_D A (zW q cI cZ U σ) → va_S A s.heap H locs →
    (∀ v ty, decode cc pc = .ok (.ireturn, 1) → ret = some ty → narrow ty (.int v) = .int v → Q (some (.int v)) σ → W p l e R s m args below meth c H locs cells slots Z (F0 m pc lsA [.int v])) ∧
    (∀ v, decode cc pc = .ok (.lreturn, 1) → ret = some .long → Q (some (.long v)) σ → W p l e R s m args below meth c H locs cells slots Z (F0 m pc lsA [.long v])) ∧
    (decode cc pc = .ok (.return_, 1) → ret = none → Q none σ → W p l e R s m args below meth c H locs cells slots Z (F0 m pc lsA []))
theorem zcat_q {r : List Value} (h : zcat r) : ((r.map (zc q)).map fun v => v.category).sum ≤ 8 := by
  rw [List.map_map]
  have : ((fun v : Value => v.category) ∘ zc q) = fun v => v.category := funext fun v => zc_cat q v
  rw [this]
  exact h
theorem zPre_of {as : List Value} {σ : zV} (hP : va_P D vwCl (zW q cI cZ U σ) H) (hD : va_D A (zW q cI cZ U σ)) (hK : va_K D vwCl (zTy cI cZ) s) (hN : zNw s) : ∀ T : State, T.heap = H → s.WarmedH T.vm → zPre D q cI cZ U as σ H.size (as.map (zc q)).toArray T :=
  fun T hT hW => ⟨rfl, by rw [hT], by rw [hT]; exact hP, va_K.moved hW.alike hK, hD.weaken (fun _ _ _ _ => trivial), zNw_warm hN hW⟩
theorem zgood {y : MethodName} {cc' : ByteArray} {nL' : Nat} {ret' : Option FieldType} (h : .code y cc' nL' ret' ∈ zTs) : GoodIn zTs (.code y cc' nL' ret' :: zTs) := by
  intro w hw
  rcases List.mem_cons.mp hw with rfl | hw
  · exact zTs_good _ h
  · exact zTs_good _ hw
theorem zgoodL {ws : List Cond} (h : ∀ w ∈ ws, w ∈ zTs) : GoodIn zTs ws := fun w hw => zTs_good _ (h w hw)
set_option maxHeartbeats 8000000 in
set_option maxRecDepth 100000 in
theorem zsound (F : zFix p l R s m args c cells slots cc nL own D q cI cZ A U scr call) (E : zEnd p l e R s m args below meth c cells slots Z cc ret D q cI cZ A U Q) : ∀ pc ls st σ, zEv U call own cc nL ret scr Q pc ls st σ → ∀ (lsA : Array Slot) (H : Heap) (locs : List Loc), lv_has lsA nL (zl q 0 ls) → va_P D vwCl (zW q cI cZ U σ) H → va_D A (zW q cI cZ U σ) → va_S A s.heap H locs → W p l e R s m args below meth c H locs cells slots Z (F0 m pc lsA (st.map (zc q))) := by
  intro pc ls st σ h
  refine h (fun pc ls st σ => ∀ (lsA : Array Slot) (H : Heap) (locs : List Loc), lv_has lsA nL (zl q 0 ls) → va_P D vwCl (zW q cI cZ U σ) H → va_D A (zW q cI cZ U σ) → va_S A s.heap H locs → W p l e R s m args below meth c H locs cells slots Z (F0 m pc lsA (st.map (zc q)))) ?_
  clear h
  intro pc ls st σ hstep lsA H locs hl hP hD hS
  obtain ⟨hx, hb, hml, hown, hts, hN, hK, hA, hcl, hsl, hfr, hlo, hC, hX⟩ := id F
  obtain ⟨i, len, hd, hz⟩ := hstep
  cases i with
  | iload_n k =>
    obtain ⟨rfl, x, h1, h2⟩ := hz
    exact lv_iload_n hx hb hd rfl (zl_at hl h1 (by simp)) (h2 lsA H locs hl hP hD hS)
  | iload k =>
    obtain ⟨rfl, x, h1, h2⟩ := hz
    exact lv_iload hx hb hd (zl_at hl h1 (by simp)) (h2 lsA H locs hl hP hD hS)
  | lload_n k =>
    obtain ⟨rfl, x, h1, h2⟩ := hz
    exact lv_lload_n hx hb hd rfl (zl_at hl h1 (by simp)) (h2 lsA H locs hl hP hD hS)
  | lload k =>
    obtain ⟨rfl, x, h1, h2⟩ := hz
    exact lv_lload hx hb hd (zl_at hl h1 (by simp)) (h2 lsA H locs hl hP hD hS)
  | aload_n k =>
    obtain ⟨rfl, x, h1, h2⟩ := hz
    exact lv_aload_n hx hb hd rfl (zl_at hl h1 (by simp)) (h2 lsA H locs hl hP hD hS)
  | istore_n k =>
    obtain ⟨rfl, x, r, rfl, h1, h2, h3⟩ := hz
    exact lv_istore_n hx hb hd rfl hl h1 rfl (fun ls' hl' => h3 ls' H locs (zl_set1 (by simp) h2 hl') hP hD hS)
  | istore k =>
    obtain ⟨rfl, x, r, rfl, h1, h2, h3⟩ := hz
    exact lv_istore hx hb hd hl h1 rfl (fun ls' hl' => h3 ls' H locs (zl_set1 (by simp) h2 hl') hP hD hS)
  | lstore_n k =>
    obtain ⟨rfl, x, r, rfl, h1, h2, h3⟩ := hz
    exact lv_lstore_n hx hb hd rfl hl h1 rfl (fun ls' hl' => h3 ls' H locs (zl_set2 (by simp) h2 hl') hP hD hS)
  | lstore k =>
    obtain ⟨rfl, x, r, rfl, h1, h2, h3⟩ := hz
    exact lv_lstore hx hb hd hl h1 rfl (fun ls' hl' => h3 ls' H locs (zl_set2 (by simp) h2 hl') hP hD hS)
  | iinc k n =>
    obtain ⟨rfl, x, h0, h1, h2, h3⟩ := hz
    obtain ⟨j, hj⟩ := List.getElem?_of_mem (zl_mem.mpr ⟨k, .int x, h0, by simp, rfl⟩ : ((0 + k, zc q (.int x)) : Nat × Value) ∈ zl q 0 ls)
    rw [Nat.zero_add] at hj
    exact lv_iinc hx hb hd hl hj rfl h1 rfl (fun ls' hl' => h3 ls' H locs (zl_set1 (by simp) h2 hl') hP hD hS)
  | iconst n =>
    obtain ⟨rfl, h2⟩ := hz
    exact lv_iconst hx hb hd rfl (h2 lsA H locs hl hP hD hS)
  | bipush n =>
    obtain ⟨rfl, h2⟩ := hz
    exact lv_bipush hx hb hd rfl (h2 lsA H locs hl hP hD hS)
  | sipush n =>
    obtain ⟨rfl, h2⟩ := hz
    exact lv_sipush hx hb hd rfl (h2 lsA H locs hl hP hD hS)
  | ldc_w idx =>
    obtain ⟨rfl, v, h1, h2⟩ := hz
    exact lv_ldcw hx hb hown (hts _ (zcG_ok h1)) hd (h2 lsA H locs hl hP hD hS)
  | ldc2_w idx =>
    obtain ⟨rfl, v, h1, h2⟩ := hz
    exact lv_ldc2 hx hb hown (hts _ (zlG_ok h1)) hd (h2 lsA H locs hl hP hD hS)
  | iadd =>
    obtain ⟨rfl, x, y, r, rfl, h2⟩ := hz
    exact lv_iadd hx hb hd (h2 lsA H locs hl hP hD hS)
  | isub =>
    obtain ⟨rfl, x, y, r, rfl, h2⟩ := hz
    exact lv_isub hx hb hd (h2 lsA H locs hl hP hD hS)
  | imul =>
    obtain ⟨rfl, x, y, r, rfl, h2⟩ := hz
    exact lv_imul hx hb hd (h2 lsA H locs hl hP hD hS)
  | iand =>
    obtain ⟨rfl, x, y, r, rfl, h2⟩ := hz
    exact lv_iand hx hb hd (h2 lsA H locs hl hP hD hS)
  | ior =>
    obtain ⟨rfl, x, y, r, rfl, h2⟩ := hz
    exact lv_ior hx hb hd (h2 lsA H locs hl hP hD hS)
  | ixor =>
    obtain ⟨rfl, x, y, r, rfl, h2⟩ := hz
    exact lv_ixor hx hb hd (h2 lsA H locs hl hP hD hS)
  | ishl =>
    obtain ⟨rfl, x, y, r, rfl, h2⟩ := hz
    exact lv_ishl hx hb hd (h2 lsA H locs hl hP hD hS)
  | ladd =>
    obtain ⟨rfl, x, y, r, rfl, h2⟩ := hz
    exact lv_ladd hx hb hd (h2 lsA H locs hl hP hD hS)
  | lmul =>
    obtain ⟨rfl, x, y, r, rfl, h2⟩ := hz
    exact lv_lmul hx hb hd (h2 lsA H locs hl hP hD hS)
  | iushr =>
    obtain ⟨rfl, x, y, r, rfl, h2⟩ := hz
    exact lv_iushr hx hb hd rfl (h2 lsA H locs hl hP hD hS)
  | lcmp =>
    obtain ⟨rfl, x, y, r, rfl, h2⟩ := hz
    exact W.lcmp hx hb hd (h2 lsA H locs hl hP hD hS)
  | i2l =>
    obtain ⟨rfl, x, r, rfl, h2⟩ := hz
    exact lv_i2l hx hb hd rfl (h2 lsA H locs hl hP hD hS)
  | dup =>
    obtain ⟨rfl, v, r, rfl, h1, h2⟩ := hz
    exact lv_dup hx hb hd (by rw [zc_cat]; exact h1) (h2 lsA H locs hl hP hD hS)
  | dup2 =>
    obtain ⟨rfl, v, w, r, rfl, h1, h1', h2⟩ := hz
    exact lv_dup2_11 hx hb hd (by rw [zc_cat]; exact h1) (by rw [zc_cat]; exact h1') (h2 lsA H locs hl hP hD hS)
  | pop =>
    obtain ⟨rfl, v, r, rfl, h1, h2⟩ := hz
    exact lv_pop hx hb hd (by rw [zc_cat]; exact h1) (h2 lsA H locs hl hP hD hS)
  | goto off =>
    obtain ⟨rfl, t, ht, h2⟩ := hz
    exact lv_goto hx hb hd ht (h2 lsA H locs hl hP hD hS)
  | ifCond cd off =>
    obtain ⟨rfl, x, r, t, rfl, ht, h1, h2⟩ := hz
    cases cd with
    | eq => exact lv_if_eq hx hb hd ht (fun z => h1 z lsA H locs hl hP hD hS) (fun z => h2 (z) lsA H locs hl hP hD hS)
    | ne => exact lv_if_ne hx hb hd ht (fun z => h1 z lsA H locs hl hP hD hS) (fun z => h2 (fun w => w z) lsA H locs hl hP hD hS)
    | lt => exact lv_if_lt hx hb hd ht (fun z => h1 z lsA H locs hl hP hD hS) (fun z => h2 (z) lsA H locs hl hP hD hS)
    | ge => exact lv_if_ge hx hb hd ht (fun z => h1 z lsA H locs hl hP hD hS) (fun z => h2 (z) lsA H locs hl hP hD hS)
    | gt => exact lv_if_gt hx hb hd ht (fun z => h1 z lsA H locs hl hP hD hS) (fun z => h2 (z) lsA H locs hl hP hD hS)
    | le => exact lv_if_le hx hb hd ht (fun z => h1 z lsA H locs hl hP hD hS) (fun z => h2 (z) lsA H locs hl hP hD hS)
  | if_icmp cd off =>
    obtain ⟨rfl, x, y, r, t, rfl, ht, h1, h2⟩ := hz
    cases cd with
    | eq => exact lv_icmp_eq hx hb hd ht (fun z => h1 z lsA H locs hl hP hD hS) (fun z => h2 (z) lsA H locs hl hP hD hS)
    | ne => exact lv_icmp_ne hx hb hd ht (fun z => h1 z lsA H locs hl hP hD hS) (fun z => h2 (fun w => w z) lsA H locs hl hP hD hS)
    | lt => exact lv_icmp_lt hx hb hd ht (fun z => h1 z lsA H locs hl hP hD hS) (fun z => h2 (z) lsA H locs hl hP hD hS)
    | ge => exact lv_icmp_ge hx hb hd ht (fun z => h1 z lsA H locs hl hP hD hS) (fun z => h2 (z) lsA H locs hl hP hD hS)
    | gt => exact lv_icmp_gt hx hb hd ht (fun z => h1 z lsA H locs hl hP hD hS) (fun z => h2 (z) lsA H locs hl hP hD hS)
    | le => exact lv_icmp_le hx hb hd ht (fun z => h1 z lsA H locs hl hP hD hS) (fun z => h2 (z) lsA H locs hl hP hD hS)
  | tableswitch dflt lo hi offs =>
    obtain ⟨x, r, t, rfl, ht, h1, h2⟩ := hz
    by_cases h3 : x.toInt < lo
    · exact lv_tableOut hx hb hd (Or.inl h3) ht (h1 (Or.inl h3) lsA H locs hl hP hD hS)
    · by_cases h4 : hi < x.toInt
      · exact lv_tableOut hx hb hd (Or.inr h4) ht (h1 (Or.inr h4) lsA H locs hl hP hD hS)
      · obtain ⟨off, t2, h5, h6, h7⟩ := h2 h3 h4
        exact lv_tableIn hx hb hd h3 h4 h5 h6 (h7 lsA H locs hl hP hD hS)
  | getfield idx =>
    obtain ⟨rfl, a, r, ci, k, w, n, fs, rfl, hf, hU, h2⟩ := hz
    obtain ⟨pi, hok⟩ := zfG_ok hf
    unfold zfOk at hok
    dsimp only at hok
    split at hok
    · rename_i C T N hcl
      simp only [Bool.and_eq_true, decide_eq_true_eq] at hok
      obtain ⟨⟨hkN, hlink⟩, -⟩ := hok
      have he := zW_get (q := q) (cI := cI) (cZ := cZ) (σ := σ) hU
      have go : ∀ v : Value, ((fs.mapIdx fun j f => match f with
        | some r => Value.ref (q r)
        | none => Value.int (σ a j))[k]? = some v) → W p l e R s m args below meth c H locs cells slots Z (F0 m (pc + 3) lsA (v :: r.map (zc q))) → W p l e R s m args below meth c H locs cells slots Z (F0 m pc lsA (.ref (q a) :: r.map (zc q))) := by
        intro v hv kk
        cases n with
        | true =>
          rw [if_pos rfl] at hlink
          exact va_getN hx hb hts (zinX ci _ hcl) hown hK hP a he hcl k hkN (va_Nw.use rfl (hN _ (zTn_of (by simpa using hlink)) rfl)) (fun x h => h) hv hd kk
        | false =>
          rw [if_neg (by decide)] at hlink
          exact va_get hx hb hts (zinX ci _ hcl) hown hK hP a he hcl k hkN (hts _ (zTs_of hlink)) (fun x h => h) hv hd kk
      rcases h2 with ⟨b, h3, h4⟩ | ⟨h3, h4⟩
      · exact go (.ref (q b)) (by rw [List.getElem?_mapIdx, h3]; rfl) (h4 lsA H locs hl hP hD hS)
      · exact go (.int (σ a k)) (by rw [List.getElem?_mapIdx, h3]; rfl) (h4 lsA H locs hl hP hD hS)
    · cases hok
  | putfield idx =>
    obtain ⟨rfl, x, a, r, ci, k, fs, rfl, hf, hU, h3, h2⟩ := hz
    obtain ⟨pi, hok⟩ := zfG_ok hf
    unfold zfOk at hok
    dsimp only at hok
    split at hok
    · rename_i C T N hcl
      simp only [Bool.and_eq_true, decide_eq_true_eq, Bool.not_true, Bool.false_or] at hok
      obtain ⟨⟨hkN, hlink⟩, hI, hfin⟩ := hok
      rw [if_neg (by decide)] at hlink
      have he := zW_get (q := q) (cI := cI) (cZ := cZ) (σ := σ) hU
      sorry
    · cases hok
  | iaload => sorry
  | baload => sorry
  | iastore => sorry
  | bastore => sorry
  | arraylength => sorry
  | ireturn => sorry
  | lreturn => sorry
  | return_ => sorry
  | invokevirtual idx => sorry
  | invokestatic idx => sorry
  | _ => exact False.elim hz
end ZS
