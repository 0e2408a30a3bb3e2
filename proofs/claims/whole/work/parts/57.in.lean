/-! constructors: rows of fields that are new arrays, a nest mate's new object -/
abbrev zIt : Type := Nat × Nat × Nat × Bool × Nat
def zTb (b : Bool) : FieldType := if b = true then .boolean else .int
def zAt (b : Bool) : ArrayType := if b = true then .boolean else .int
def zCb (cI cZ : ClassId) (b : Bool) : ClassId := if b = true then cZ else cI
def zpu (cc : ByteArray) (pc len n : Nat) : Prop := (∃ v, decode cc pc = .ok (.iconst v, 1) ∧ len = 1 ∧ Int32.ofInt v = nI n) ∨ (∃ v, decode cc pc = .ok (.bipush v, 2) ∧ len = 2 ∧ (Int8.ofInt v).toInt32 = nI n) ∨ (∃ v, decode cc pc = .ok (.sipush v, 3) ∧ len = 3 ∧ (Int16.ofInt v).toInt32 = nI n)
/-- aload_0, a number, newarray, putfield: field k becomes a new array of n -/
def zit (cc : ByteArray) (own : String) (ci : Nat) (T : u_T) (N pc : Nat) (x : zIt) : Prop :=
  decode cc pc = .ok (.aload_n 0, 1) ∧ zpu cc (pc + 1) x.2.1 x.2.2.1 ∧ decode cc (pc + 1 + x.2.1) = .ok (.newarray (zAt x.2.2.2.1), 2) ∧ decode cc (pc + 1 + x.2.1 + 2) = .ok (.putfield x.2.2.2.2, 3) ∧
  zfG own x.2.2.2.2 = some (ci, x.1, false, false) ∧ x.1 < N ∧ (T x.1).2.2.2 = true ∧ (T x.1).1 = own ∧ parseFieldDescriptor (T x.1).2.2.1 = some (.array (zTb x.2.2.2.1)) ∧ x.2.2.1 < 2 ^ 20
def zits (cc : ByteArray) (own : String) (ci : Nat) (T : u_T) (N : Nat) : Nat → List zIt → Prop
  | _, [] => True
  | pc, x :: t => zit cc own ci T N pc x ∧ zits cc own ci T N (pc + 1 + x.2.1 + 5) t
def zpe : Nat → List zIt → Nat
  | pc, [] => pc
  | pc, x :: t => zpe (pc + 1 + x.2.1 + 5) t
def zsn : List zIt → Nat
  | [] => 0
  | x :: t => x.2.2.1 + zsn t
def zset : List zIt → List Nat → List Value → List Value
  | x :: t, u :: us, fs => zset t us (fs.set x.1 (.ref u))
  | _, _, fs => fs
def zars (cI cZ : ClassId) : List zIt → List Nat → va_W
  | x :: t, u :: us => (u, .inl (zCb cI cZ x.2.2.2.1, x.2.2.1, .inl fun _ => 0)) :: zars cI cZ t us
  | _, _ => []
/-- where a constructor's object lies in its world: behind wp, ahead of wr -/
def zob (wp : va_W) (h ci : Nat) (fs : List Value) (wr : va_W) : va_W := wp ++ (h, .inr (ci, fs)) :: wr
theorem zob_at {wp wr : va_W} {h ci : Nat} {fs : List Value} : (zob wp h ci fs wr)[wp.length]? = some (h, .inr (ci, fs)) := by
  unfold zob
  rw [List.getElem?_append_right (Nat.le_refl _), Nat.sub_self]
  rfl
theorem zob_app {wp wr w : va_W} {h ci : Nat} {fs : List Value} : zob wp h ci fs wr ++ w = zob wp h ci fs (wr ++ w) := by
  unfold zob
  rw [List.append_assoc]
  rfl
theorem zob_set {wp wr : va_W} {h ci : Nat} {fs fs' : List Value} : (zob wp h ci fs wr).set wp.length (h, .inr (ci, fs')) = zob wp h ci fs' wr := by
  unfold zob
  rw [List.set_append_right _ _ (Nat.le_refl _), Nat.sub_self]
  rfl
section ZI
variable {p : Program} {l : Launch} {e : Env} {R : Room} {s : State} {m : MethodId} {args : Array Value} {below : List Frame} {meth : Method} {c : Code} {Z : State → Prop}
variable {cc : ByteArray} {nL : Nat} {own : String} {D : va_G} {cI cZ : ClassId} {A : Nat → Prop}
/-- what stays the same in a constructor -/
def ziFix (p : Program) (s : State) (m : MethodId) (args : Array Value) (meth : Method) (c : Code) (cc : ByteArray) (nL : Nat) (own : String) (D : va_G) (cI cZ : ClassId) (A : Nat → Prop) : Prop :=
  p.tables.exec = Jvm.exec ∧ c.code = cc ∧ c.maxLocals = nL ∧ s.vm.findClass own = some m.cls ∧ (∀ w ∈ zTs, w.before args s = true) ∧ va_K D vwCl (zTy cI cZ) s ∧ (∀ q, s.heap.size ≤ q → A q) ∧ meth.name = "<init>"
theorem zi_pu {H : Heap} {locs : List Loc} {cells slots : Nat} (hx : p.tables.exec = Jvm.exec) (hb : c.code = cc) {pc len n : Nat} (h : zpu cc pc len n) {ls : Array Slot} {st : List Value} (kk : W p l e R s m args below meth c H locs cells slots Z (F0 m (pc + len) ls (.int (nI n) :: st))) : W p l e R s m args below meth c H locs cells slots Z (F0 m pc ls st) := by
  rcases h with ⟨v, h1, rfl, h2⟩ | ⟨v, h1, rfl, h2⟩ | ⟨v, h1, rfl, h2⟩
  · exact lv_iconst hx hb h1 h2 kk
  · exact lv_bipush hx hb h1 h2 kk
  · exact lv_sipush hx hb h1 h2 kk
theorem zTs_arr : ∀ b : Bool, .arrayClass (zTb b) ∈ zTs := by
  intro b
  cases b
  · exact List.mem_filter.mpr ⟨by decide +kernel, by decide +kernel⟩
  · exact List.mem_filter.mpr ⟨by decide +kernel, by decide +kernel⟩
theorem zi_same {cA : ClassId} {b : Bool} {s : State} (hK : va_K D vwCl (zTy cI cZ) s) (hK2 : va_K D vwCl (zTy cI cZ ++ [(cA, zTb b)]) s) : cA = zCb cI cZ b := by
  have h1 := (hK2.2 2 (cA, zTb b) rfl).2
  cases b
  · have h2 := (hK.2 0 (cI, .int) rfl).2
    exact Option.some.inj ((va_nm_int h1).symm.trans (va_nm_int h2))
  · have h2 := (hK.2 1 (cZ, .boolean) rfl).2
    exact Option.some.inj ((va_nm_boolean h1).symm.trans (va_nm_boolean h2))
theorem zi_link {ci k idx N : Nat} {T : u_T} {C : String} (hf : zfG own idx = some (ci, k, false, false)) (hc : vwCl[ci]? = some (C, T, N)) : .fieldLink own idx (T k).1 (T k).2.1 (T k).2.2.1 ∈ zTs := by
  obtain ⟨pi, hok⟩ := zfG_ok hf
  unfold zfOk at hok
  dsimp only at hok
  rw [hc] at hok
  simp only [Bool.and_eq_true, decide_eq_true_eq] at hok
  obtain ⟨⟨hkN, hlink⟩, -⟩ := hok
  rw [if_neg (by decide)] at hlink
  exact zTs_of hlink
theorem zi_arr {H : Heap} {locs : List Loc} {cells slots : Nat} (F : ziFix p s m args meth c cc nL own D cI cZ A) {pc ci N h : Nat} {T : u_T} {C : String} {x : zIt} {lsA : Array Slot} {wp wr : va_W} {fs : List Value} (hc : vwCl[ci]? = some (C, T, N)) (hit : zit cc own ci T N pc x) (hfs : fs.length = N) (hcells : cells + 1 ≤ R.cells) (hslots : slots + x.2.2.1 ≤ R.slots) (hl : lv_has lsA nL [(0, .ref h)])
    (hP : va_P D vwCl (zob wp h ci fs wr) H) (hD : va_D A (zob wp h ci fs wr)) (hS : va_S A s.heap H locs)
    (kk : ∀ (u : Nat) (H1 : Heap) (locs1 : List Loc), va_P D vwCl (zob wp h ci (fs.set x.1 (.ref u)) (wr ++ [(u, .inl (zCb cI cZ x.2.2.2.1, x.2.2.1, .inl fun _ => 0))])) H1 → va_D A (zob wp h ci (fs.set x.1 (.ref u)) (wr ++ [(u, .inl (zCb cI cZ x.2.2.2.1, x.2.2.1, .inl fun _ => 0))])) → va_S A s.heap H1 locs1 → W p l e R s m args below meth c H1 locs1 (cells + 1) (slots + x.2.2.1) Z (F0 m (pc + 1 + x.2.1 + 5) lsA [])) : W p l e R s m args below meth c H locs cells slots Z (F0 m pc lsA []) := by
  obtain ⟨k, len, n, b, idx⟩ := x
  obtain ⟨hx, hb, hml, hown, hts, hK, hA, hin⟩ := F
  obtain ⟨d0, d1, d2, d3, hf, hk, hfin, hdecl, hty, hn⟩ := hit
  dsimp only at d0 d1 d2 d3 hf hk hfin hdecl hty hn hslots kk
  refine lv_aload_n hx hb d0 rfl (lv_at hl 0 rfl) ?_
  refine zi_pu hx hb d1 ?_
  have hneg : ¬ nI n < 0 := by
    rw [Int32.lt_iff_toInt_lt, nI_toInt (by omega), Int32.toInt_zero]; omega
  have hat : newarray.typeOf (zAt b) = zTb b := by cases b <;> rfl
  refine va_newa (a0 := (n, .inl fun _ => 0)) (ty := zTb b) hx hb (by rw [hat]; exact hts _ (zTs_arr b)) hat hK hP hD hS hA (fun cA => by cases b <;> rfl) hneg (nI_clamp (by omega)) (by
    cases b
    · show n * 4 ≤ 536870912
      omega
    · show n * 1 ≤ 536870912
      omega) hcells hslots d2 (fun u cA H1 hK2 hP1 hD1 hS1 => ?_)
  have hcA := zi_same hK hK2
  subst hcA
  rw [zob_app] at hP1 hD1
  obtain ⟨ty0, hty0, hnm⟩ := zty ci _ hc
  refine va_putF hx hb hts (zinX ci _ hc) ty0 hty0 hnm hown hK hP1 hD1 hS1 wp.length zob_at hc k hk (hts _ (zi_link hf hc)) (fun x h => h) hfin hin hdecl hty (v := .ref u) (by cases b <;> rfl) (by cases b <;> rfl) (by omega) (show decode cc (pc + 1 + len + 2) = _ from d3) (fun H2 locs2 hP2 hD2 hS2 => ?_)
  rw [zob_set] at hP2 hD2
  exact kk u H2 locs2 hP2 hD2 hS2
theorem zset_len {xs : List zIt} : ∀ {us : List Nat} {fs : List Value}, (zset xs us fs).length = fs.length := by
  induction xs with
  | nil => intro us fs; rfl
  | cons x t ih =>
    intro us fs
    cases us with
    | nil => rfl
    | cons u us => show (zset t us _).length = _; rw [ih, List.length_set]
theorem zi_arrs (F : ziFix p s m args meth c cc nL own D cI cZ A) {ci N h : Nat} {T : u_T} {C : String} {lsA : Array Slot} {wp : va_W} (hc : vwCl[ci]? = some (C, T, N)) (hl : lv_has lsA nL [(0, .ref h)]) : ∀ (xs : List zIt) (pc : Nat) (fs : List Value) (wr : va_W) (H : Heap) (locs : List Loc) (cells slots : Nat), zits cc own ci T N pc xs → fs.length = N → cells + xs.length ≤ R.cells → slots + zsn xs ≤ R.slots →
    va_P D vwCl (zob wp h ci fs wr) H → va_D A (zob wp h ci fs wr) → va_S A s.heap H locs →
    (∀ (us : List Nat) (H1 : Heap) (locs1 : List Loc), us.length = xs.length → va_P D vwCl (zob wp h ci (zset xs us fs) (wr ++ zars cI cZ xs us)) H1 → va_D A (zob wp h ci (zset xs us fs) (wr ++ zars cI cZ xs us)) → va_S A s.heap H1 locs1 → W p l e R s m args below meth c H1 locs1 (cells + xs.length) (slots + zsn xs) Z (F0 m (zpe pc xs) lsA [])) → W p l e R s m args below meth c H locs cells slots Z (F0 m pc lsA []) := by
  intro xs
  induction xs with
  | nil =>
    intro pc fs wr H locs cells slots _ _ _ _ hP hD hS kk
    exact kk [] H locs rfl (by simpa [zset, zars] using hP) (by simpa [zset, zars] using hD) hS
  | cons x t ih =>
    intro pc fs wr H locs cells slots hit hfs hcells hslots hP hD hS kk
    simp only [List.length_cons, zsn] at hcells hslots
    refine zi_arr F hc hit.1 hfs (by omega) (by omega) hl hP hD hS (fun u H1 locs1 hP1 hD1 hS1 => ?_)
    refine ih _ _ _ H1 locs1 _ _ hit.2 (by rw [List.length_set]; exact hfs) (by omega) (by omega) hP1 hD1 hS1 (fun us H2 locs2 hu hP2 hD2 hS2 => ?_)
    have k2 := kk (u :: us) H2 locs2 (by simp [hu]) (by simpa [zset, zars, List.append_assoc] using hP2) (by simpa [zset, zars, List.append_assoc] using hD2) hS2
    simp only [List.length_cons, zsn, zpe] at k2
    rw [show cells + 1 + t.length = cells + (t.length + 1) by omega, show slots + x.2.2.1 + zsn t = slots + (x.2.2.1 + zsn t) by omega]
    exact k2
end ZI
/-- a leaf's constructor: the object alone, its fields not yet set -/
def zLp (D : va_G) (cI cZ : ClassId) (h ci : Nat) (fs : List Value) (sz : Nat) : Array Value → State → Prop := va_Pc [.ref h] (fun T => T.heap.size = sz ∧ va_P D vwCl (zob [] h ci fs []) T.heap ∧ va_K D vwCl (zTy cI cZ) T ∧ va_D (fun _ => True) (zob [] h ci fs []))
def zLq (D : va_G) (cI cZ : ClassId) (h ci : Nat) (xs : List zIt) (fs : List Value) (A : Nat → Prop) : Array Value → State → Outcome → State → Prop := va_Qv (fun us : List Nat => us.length = xs.length) (fun us t => va_P D vwCl (zob [] h ci (zset xs us fs) (zars cI cZ xs us)) t.heap ∧ va_D A (zob [] h ci (zset xs us fs) (zars cI cZ xs us))) A
theorem zLp_blind {D : va_G} {cI cZ : ClassId} {h ci sz : Nat} {fs : List Value} : FrameBlind (zLp D cI cZ h ci fs sz) := by
  intro a V g mk q
  obtain ⟨h1, h2, h3, h4, h5⟩ := q
  exact ⟨h1, h2, h3, va_K.moved (u := V) (U := V.calling g mk a) (Vm.Alike.refl V.vm) h4, h5⟩
theorem zTs_ob : .instanceMethod objectInit ∈ zTs ∧ .code objectInit ⟨#[0xb1]⟩ 1 none ∈ zTs := ⟨List.mem_filter.mpr ⟨by decide +kernel, by decide +kernel⟩, List.mem_filter.mpr ⟨by decide +kernel, by decide +kernel⟩⟩
set_option maxHeartbeats 1000000 in
theorem zi_leaf (l : Launch) (D : va_G) (cI cZ : ClassId) {y : MethodName} {cc : ByteArray} {idx ci N : Nat} {T : u_T} {C : String} {xs : List zIt} {fs : List Value} (hy : plainName y.cls = true) (hyi : y.name = "<init>") (hob : .methodLink y.cls idx objectInit ∈ zTs) (hc : vwCl[ci]? = some (C, T, N)) (d0 : decode cc 0 = .ok (.aload_n 0, 1)) (d1 : decode cc 1 = .ok (.invokespecial idx, 3)) (hit : zits cc y.cls ci T N 4 xs) (hr : decode cc (zpe 4 xs) = .ok (.return_, 1)) (hfs : fs.length = N) (h sz : Nat) :
    Met l y (.code y cc 1 none :: zTs) { frames := 1, cells := xs.length, slots := zsn xs, locals := 36 } (zLp D cI cZ h ci fs sz) (zLq D cI cZ h ci xs fs (va_A (zob [] h ci fs []) sz)) xs.length (zsn xs) (va_A (zob [] h ci fs []) sz) := by
  refine Met.ofW (cc := cc) (maxL := 1) (ret := none) hy rfl ?_
  intro p e s m args below meth c s₁ B hml hv
  obtain ⟨rfl, hsz, hP, hK, hD0⟩ := hv
  have hts := atoms_spec (ws := .code y cc 1 none :: zTs) B.pre
  have hts2 : ∀ w ∈ zTs, w.before [Value.ref h].toArray s = true := fun w hw => hts w (List.mem_cons_of_mem _ hw)
  have hown : s.vm.findClass y.cls = some m.cls := findClass_of_methodNamed B.named
  have hin : meth.name = "<init>" := ((name_of_methodNamed B.named B.method).1).trans hyi
  subst hsz
  have hD := hD0.self (sz := s.heap.size)
  generalize hAe : va_A (zob [] h ci fs []) s.heap.size = A at hD ⊢
  have hA : ∀ q : Nat, s.heap.size ≤ q → A q := fun q h => by rw [← hAe]; exact Or.inr h
  have hl := lv_entry [.ref h] (n := 1) (Nat.le_of_ble_eq_true rfl)
  rw [lg_entry_eq]
  generalize (lg_sl [Value.ref h] ++ List.replicate (1 - (lg_sl [Value.ref h]).length) Slot.unset).toArray = ls at hl ⊢
  have hl : lv_has ls 1 [(0, .ref h)] := hl
  have F : ziFix p s m [Value.ref h].toArray meth c cc 1 y.cls D cI cZ A := ⟨B.exec, B.bytes, hml, hown, hts2, hK, hA, hin⟩
  refine lv_aload_n B.exec B.bytes d0 rfl (lv_at hl 0 rfl) ?_
  refine W.objInit B.exec B.bytes hown (hts2 _ hob) (hts2 _ zTs_ob.1) (hts2 _ zTs_ob.2) rfl (by rw [hml]; exact hl.1) rfl d1 (Nat.le_refl _) (Nat.le_of_ble_eq_true rfl) ?_
  refine W.eq (g2 := F0 m 4 ls []) rfl ?_
  refine zi_arrs F hc hl xs 4 fs [] s.heap [] 0 0 hit hfs (by show 0 + xs.length ≤ xs.length; omega) (by show 0 + zsn xs ≤ zsn xs; omega) hP hD va_S.rf (fun us H1 locs1 hu hP1 hD1 hS1 => ?_)
  rw [Nat.zero_add, Nat.zero_add]
  rw [List.nil_append] at hP1 hD1
  have hlocks := B.notSynchronized
  exact W.vret B.exec B.bytes B.returns (fun t ht hW => ⟨⟨us, rfl, hu, by rw [ht]; exact hP1, hD1⟩, hS1.F ht⟩) hS1.2.2 hr
