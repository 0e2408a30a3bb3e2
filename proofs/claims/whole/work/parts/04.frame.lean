/-! the abstract world, one step, what a run comes to (a least fixed point), calls by depth -/
abbrev zV : Type := Nat → Nat → Int32
abbrev zD : Type := (Bool × Nat) ⊕ (Nat × List (Option Nat))
abbrev zU : Type := List zD
abbrev zQ : Type := Option Value → zV → Prop
abbrev zC : Type := MethodName → List Value → zV → zQ → Prop
abbrev zS : Type := Option (Nat × Nat × (Nat → Int32))
abbrev zP : Type := Nat → List Value → List Value → zV → Prop
def zif (c : Jvm.ClassFile.Cond) (x y : Int32) : Prop := match c with
  | .eq => x = y
  | .ne => ¬ x = y
  | .lt => x < y
  | .ge => y ≤ x
  | .gt => y < x
  | .le => x ≤ y
def zok1 (ls : List Value) (k : Nat) : Prop := match k with
  | 0 => True
  | j + 1 => ∀ v, ls[j]? = some v → v.category = 1
def zput (σ : zV) (a k : Nat) (x : Int32) : zV := va_up σ a (upd (σ a) k x)
def zcat (r : List Value) : Prop := (r.map fun v => v.category).sum ≤ 8
def zstep (U : zU) (call : zC) (own : String) (nL : Nat) (ret : Option FieldType) (scr : zS) (Q : zQ) (P : zP) (i : Instr) (len pc : Nat) (ls st : List Value) (σ : zV) : Prop := match i with
  | .iload_n k => len = 1 ∧ ∃ x, ls[(k : Nat)]? = some (.int x) ∧ P (pc + 1) ls (.int x :: st) σ
  | .iload k => len = 2 ∧ ∃ x, ls[k]? = some (.int x) ∧ P (pc + 2) ls (.int x :: st) σ
  | .lload_n k => len = 1 ∧ ∃ x, ls[(k : Nat)]? = some (.long x) ∧ P (pc + 1) ls (.long x :: st) σ
  | .lload k => len = 2 ∧ ∃ x, ls[k]? = some (.long x) ∧ P (pc + 2) ls (.long x :: st) σ
  | .aload_n k => len = 1 ∧ ∃ x, ls[(k : Nat)]? = some (.ref x) ∧ P (pc + 1) ls (.ref x :: st) σ
  | .istore_n k => len = 1 ∧ ∃ x r, st = .int x :: r ∧ (k : Nat) < nL ∧ zok1 ls k ∧ P (pc + 1) (ls.set k (.int x)) r σ
  | .istore k => len = 2 ∧ ∃ x r, st = .int x :: r ∧ k < nL ∧ zok1 ls k ∧ P (pc + 2) (ls.set k (.int x)) r σ
  | .lstore_n k => len = 1 ∧ ∃ x r, st = .long x :: r ∧ (k : Nat) + 1 < nL ∧ zok1 ls k ∧ P (pc + 1) ((ls.set k (.long x)).set (k + 1) .null) r σ
  | .lstore k => len = 2 ∧ ∃ x r, st = .long x :: r ∧ k + 1 < nL ∧ zok1 ls k ∧ P (pc + 2) ((ls.set k (.long x)).set (k + 1) .null) r σ
  | .iinc k n => len = 3 ∧ ∃ x, ls[k]? = some (.int x) ∧ k < nL ∧ zok1 ls k ∧ P (pc + 3) (ls.set k (.int (x + Int32.ofInt n))) st σ
  | .iconst n => len = 1 ∧ P (pc + 1) ls (.int (Int32.ofInt n) :: st) σ
  | .bipush n => len = 2 ∧ P (pc + 2) ls (.int (Int8.ofInt n).toInt32 :: st) σ
  | .sipush n => len = 3 ∧ P (pc + 3) ls (.int (Int16.ofInt n).toInt32 :: st) σ
  | .ldc_w idx => len = 3 ∧ ∃ v, zcG own idx = some v ∧ P (pc + 3) ls (.int v :: st) σ
  | .ldc2_w idx => len = 3 ∧ ∃ v, zlG own idx = some v ∧ P (pc + 3) ls (.long v :: st) σ
  | .iadd => len = 1 ∧ ∃ x y r, st = .int y :: .int x :: r ∧ P (pc + 1) ls (.int (x + y) :: r) σ
  | .isub => len = 1 ∧ ∃ x y r, st = .int y :: .int x :: r ∧ P (pc + 1) ls (.int (x - y) :: r) σ
  | .imul => len = 1 ∧ ∃ x y r, st = .int y :: .int x :: r ∧ P (pc + 1) ls (.int (x * y) :: r) σ
  | .iand => len = 1 ∧ ∃ x y r, st = .int y :: .int x :: r ∧ P (pc + 1) ls (.int (x &&& y) :: r) σ
  | .ior => len = 1 ∧ ∃ x y r, st = .int y :: .int x :: r ∧ P (pc + 1) ls (.int (x ||| y) :: r) σ
  | .ixor => len = 1 ∧ ∃ x y r, st = .int y :: .int x :: r ∧ P (pc + 1) ls (.int (x ^^^ y) :: r) σ
  | .ishl => len = 1 ∧ ∃ x y r, st = .int y :: .int x :: r ∧ P (pc + 1) ls (.int (x <<< (y &&& 31)) :: r) σ
  | .iushr => len = 1 ∧ ∃ x y r, st = .int y :: .int x :: r ∧ P (pc + 1) ls (.int (x.toUInt32 >>> (y.toUInt32 &&& Int32.toUInt32 31)).toInt32 :: r) σ
  | .ladd => len = 1 ∧ ∃ x y r, st = .long y :: .long x :: r ∧ P (pc + 1) ls (.long (x + y) :: r) σ
  | .lmul => len = 1 ∧ ∃ x y r, st = .long y :: .long x :: r ∧ P (pc + 1) ls (.long (x * y) :: r) σ
  | .lcmp => len = 1 ∧ ∃ x y r, st = .long y :: .long x :: r ∧ P (pc + 1) ls (.int (lg_cmp x y) :: r) σ
  | .i2l => len = 1 ∧ ∃ x r, st = .int x :: r ∧ P (pc + 1) ls (.long x.toInt64 :: r) σ
  | .dup => len = 1 ∧ ∃ v r, st = v :: r ∧ v.category = 1 ∧ P (pc + 1) ls (v :: v :: r) σ
  | .dup2 => len = 1 ∧ ∃ v w r, st = v :: w :: r ∧ v.category = 1 ∧ w.category = 1 ∧ P (pc + 1) ls (v :: w :: v :: w :: r) σ
  | .pop => len = 1 ∧ ∃ v r, st = v :: r ∧ v.category = 1 ∧ P (pc + 1) ls r σ
  | .goto off => len = 3 ∧ ∃ t : Nat, (pc : Int) + off = (t : Int) ∧ P t ls st σ
  | .ifCond c off => len = 3 ∧ ∃ (x : Int32) (r : List Value) (t : Nat), st = .int x :: r ∧ (pc : Int) + off = (t : Int) ∧ (zif c x 0 → P t ls r σ) ∧ (¬ zif c x 0 → P (pc + 3) ls r σ)
  | .if_icmp c off => len = 3 ∧ ∃ (x y : Int32) (r : List Value) (t : Nat), st = .int y :: .int x :: r ∧ (pc : Int) + off = (t : Int) ∧ (zif c x y → P t ls r σ) ∧ (¬ zif c x y → P (pc + 3) ls r σ)
  | .tableswitch dflt lo hi offs => ∃ (x : Int32) (r : List Value) (t : Nat), st = .int x :: r ∧ (pc : Int) + dflt = (t : Int) ∧ ((x.toInt < lo ∨ hi < x.toInt) → P t ls r σ) ∧ (¬ x.toInt < lo → ¬ hi < x.toInt → ∃ (off : Int) (t : Nat), offs[(x.toInt - lo).toNat]? = some off ∧ (pc : Int) + off = (t : Int) ∧ P t ls r σ)
  | .getfield idx => len = 3 ∧ ∃ a r ci k w n fs, st = .ref a :: r ∧ zfG own idx = some (ci, k, w, n) ∧ U[a]? = some (.inr (ci, fs)) ∧ ((∃ b, fs[k]? = some (some b) ∧ P (pc + 3) ls (.ref b :: r) σ) ∨ (fs[k]? = some none ∧ P (pc + 3) ls (.int (σ a k) :: r) σ))
  | .putfield idx => len = 3 ∧ ∃ x a r ci k fs, st = .int x :: .ref a :: r ∧ zfG own idx = some (ci, k, true, false) ∧ U[a]? = some (.inr (ci, fs)) ∧ fs[k]? = some none ∧ P (pc + 3) ls r (zput σ a k x)
  | .iaload => len = 1 ∧ ∃ j a r, st = .int j :: .ref a :: r ∧ ((∃ n, U[a]? = some (.inl (false, n)) ∧ vp_in j n ∧ P (pc + 1) ls (.int (σ a j.toNatClampNeg) :: r) σ) ∨ (∃ L xs, U[a]? = none ∧ scr = some (a, L, xs) ∧ vp_in j L ∧ P (pc + 1) ls (.int (xs j.toNatClampNeg) :: r) σ))
  | .baload => len = 1 ∧ ∃ j a r n, st = .int j :: .ref a :: r ∧ U[a]? = some (.inl (true, n)) ∧ vp_in j n ∧ P (pc + 1) ls (.int (σ a j.toNatClampNeg) :: r) σ
  | .iastore => len = 1 ∧ ∃ x j a r n, st = .int x :: .int j :: .ref a :: r ∧ U[a]? = some (.inl (false, n)) ∧ vp_in j n ∧ P (pc + 1) ls r (zput σ a j.toNatClampNeg x)
  | .bastore => len = 1 ∧ ∃ x j a r n, st = .int x :: .int j :: .ref a :: r ∧ U[a]? = some (.inl (true, n)) ∧ vp_in j n ∧ P (pc + 1) ls r (zput σ a j.toNatClampNeg (vp_nar .boolean x))
  | .arraylength => len = 1 ∧ ∃ a r, st = .ref a :: r ∧ ((∃ b n, U[a]? = some (.inl (b, n)) ∧ P (pc + 1) ls (.int (nI n) :: r) σ) ∨ (∃ L xs, U[a]? = none ∧ scr = some (a, L, xs) ∧ P (pc + 1) ls (.int (nI L) :: r) σ))
  | .ireturn => len = 1 ∧ ∃ v ty, st = [.int v] ∧ ret = some ty ∧ narrow ty (.int v) = .int v ∧ Q (some (.int v)) σ
  | .lreturn => len = 1 ∧ ∃ v, st = [.long v] ∧ ret = some .long ∧ Q (some (.long v)) σ
  | .return_ => len = 1 ∧ st = [] ∧ ret = none ∧ Q none σ
  | .invokevirtual idx => len = 3 ∧ ∃ y k a r As ci fs, zmG own idx = some (y, As.length, k) ∧ k < 2 ∧ st = As.reverse ++ .ref a :: r ∧ U[a]? = some (.inr (ci, fs)) ∧ zNames[ci]? = some y.cls ∧ zcat r ∧ call y (.ref a :: As) σ (fun v σ' => P (pc + 3) ls (v.toList ++ r) σ')
  | .invokestatic idx => len = 3 ∧ ((∃ y r As, zmG own idx = some (y, As.length, 2) ∧ st = As.reverse ++ r ∧ zcat r ∧ call y As σ (fun v σ' => P (pc + 3) ls (v.toList ++ r) σ')) ∨
      (∃ y a a0 n0 n1 sp dp n r, zmG own idx = some (y, 5, 3) ∧ st = .int n :: .int dp :: .ref a :: .int sp :: .ref a0 :: r ∧ zcat r ∧ U[a0]? = some (.inl (false, n0)) ∧ U[a]? = some (.inl (false, n1)) ∧ ¬ sp < 0 ∧ ¬ dp < 0 ∧ ¬ n < 0 ∧ sp.toNatClampNeg + n.toNatClampNeg ≤ n0 ∧ dp.toNatClampNeg + n.toNatClampNeg ≤ n1 ∧ P (pc + 3) ls r (va_up σ a (va_cpy (σ a0) (σ a) sp.toNatClampNeg dp.toNatClampNeg n.toNatClampNeg))) ∨
      (∃ m x y r, zmG own idx = some (m, 2, 4) ∧ st = .int y :: .int x :: r ∧ zcat r ∧ P (pc + 3) ls (.int (if x < y then y else x) :: r) σ))
  | _ => False
def zD1 (U : zU) (call : zC) (own : String) (cc : ByteArray) (nL : Nat) (ret : Option FieldType) (scr : zS) (Q : zQ) (P : zP) (pc : Nat) (ls st : List Value) (σ : zV) : Prop := ∃ i len, decode cc pc = .ok (i, len) ∧ zstep U call own nL ret scr Q P i len pc ls st σ
def zEv (U : zU) (call : zC) (own : String) (cc : ByteArray) (nL : Nat) (ret : Option FieldType) (scr : zS) (Q : zQ) (pc : Nat) (ls st : List Value) (σ : zV) : Prop := ∀ P : zP, (∀ pc ls st σ, zD1 U call own cc nL ret scr Q P pc ls st σ → P pc ls st σ) → P pc ls st σ
def zia : List Value → List Value
  | [] => []
  | v :: t => if v.category = 2 then v :: .null :: zia t else v :: zia t
def zin (nL : Nat) (as : List Value) : List Value := zia as ++ List.replicate (nL - (zia as).length) .null
def zCall (U : zU) : Nat → zC
  | 0 => fun _ _ _ _ => False
  | d + 1 => fun y as σ Q => ∃ cc nL ret, zkG y = some (cc, nL, ret) ∧ (zia as).length ≤ nL ∧ zEv U (zCall U d) y.cls cc nL ret none Q 0 (zin nL as) [] σ
def zMono (call : zC) : Prop := ∀ y as σ (Q Q' : zQ), (∀ v σ, Q v σ → Q' v σ) → call y as σ Q → call y as σ Q'
theorem zimp {a b c : Prop} (h : b → c) (g : a → b) : a → c := fun x => h (g x)
set_option maxHeartbeats 4000000 in
theorem zstep_mono {U : zU} {call : zC} {own : String} {nL : Nat} {ret : Option FieldType} {scr : zS} {Q Q' : zQ} {P P' : zP} (hc : zMono call) (hQ : ∀ v σ, Q v σ → Q' v σ) (hP : ∀ pc ls st σ, P pc ls st σ → P' pc ls st σ) {i : Instr} {len pc : Nat} {ls st : List Value} {σ : zV} (h : zstep U call own nL ret scr Q P i len pc ls st σ) : zstep U call own nL ret scr Q' P' i len pc ls st σ := by
  unfold zstep at h ⊢
  split at h <;> revert h <;> repeat' (first | exact id | exact hP _ _ _ _ | exact hQ _ _ | exact hc _ _ _ _ _ (fun _ _ => hP _ _ _ _) | refine And.imp ?_ ?_ | refine Or.imp ?_ ?_ | refine Exists.imp (fun _ => ?_) | refine zimp ?_)
theorem zD1_mono {U : zU} {call : zC} {own : String} {cc : ByteArray} {nL : Nat} {ret : Option FieldType} {scr : zS} {Q Q' : zQ} {P P' : zP} (hc : zMono call) (hQ : ∀ v σ, Q v σ → Q' v σ) (hP : ∀ pc ls st σ, P pc ls st σ → P' pc ls st σ) {pc : Nat} {ls st : List Value} {σ : zV} (h : zD1 U call own cc nL ret scr Q P pc ls st σ) : zD1 U call own cc nL ret scr Q' P' pc ls st σ := by
  obtain ⟨i, len, h1, h2⟩ := h
  exact ⟨i, len, h1, zstep_mono hc hQ hP h2⟩
theorem zEv_in {U : zU} {call : zC} {own : String} {cc : ByteArray} {nL : Nat} {ret : Option FieldType} {scr : zS} {Q : zQ} (hc : zMono call) {pc : Nat} {ls st : List Value} {σ : zV} (h : zD1 U call own cc nL ret scr Q (zEv U call own cc nL ret scr Q) pc ls st σ) : zEv U call own cc nL ret scr Q pc ls st σ := by
  intro P hP
  exact hP _ _ _ _ (zD1_mono hc (fun _ _ h => h) (fun pc ls st σ h => h P hP) h)
theorem zEv_eq {U : zU} {call : zC} {own : String} {cc : ByteArray} {nL : Nat} {ret : Option FieldType} {scr : zS} {Q : zQ} (hc : zMono call) {pc : Nat} {ls st : List Value} {σ : zV} : zEv U call own cc nL ret scr Q pc ls st σ = zD1 U call own cc nL ret scr Q (zEv U call own cc nL ret scr Q) pc ls st σ := by
  refine propext ⟨fun h => h _ (fun pc ls st σ g => zD1_mono hc (fun _ _ h => h) (fun _ _ _ _ h => zEv_in hc h) g), zEv_in hc⟩
theorem zEv_mono {U : zU} {call : zC} {own : String} {cc : ByteArray} {nL : Nat} {ret : Option FieldType} {scr : zS} {Q Q' : zQ} (hc : zMono call) (hQ : ∀ v σ, Q v σ → Q' v σ) {pc : Nat} {ls st : List Value} {σ : zV} (h : zEv U call own cc nL ret scr Q pc ls st σ) : zEv U call own cc nL ret scr Q' pc ls st σ := by
  intro P hP
  exact h P (fun pc ls st σ g => hP _ _ _ _ (zD1_mono hc hQ (fun _ _ _ _ h => h) g))
theorem zCall_mono (U : zU) (d : Nat) : zMono (zCall U d) := by
  induction d with
  | zero => intro y as σ Q Q' _ h; exact h
  | succ d ih =>
    intro y as σ Q Q' hQ h
    obtain ⟨cc, nL, ret, h1, h2, h3⟩ := h
    exact ⟨cc, nL, ret, h1, h2, zEv_mono ih hQ h3⟩
/-! the abstract world in the heap -/
def zc (q : Nat → Nat) (v : Value) : Value := match v with
  | .ref a => .ref (q a)
  | w => w
theorem zc_cat (q : Nat → Nat) (v : Value) : (zc q v).category = v.category := by cases v <;> rfl
def zE (q : Nat → Nat) (cI cZ : ClassId) (σ : zV) (k : Nat) (d : zD) : va_E := match d with
  | .inl (b, n) => .inl (if b = true then cZ else cI, n, .inl (σ k))
  | .inr (ci, fs) => .inr (ci, fs.mapIdx fun j f => match f with
    | some r => .ref (q r)
    | none => .int (σ k j))
def zW (q : Nat → Nat) (cI cZ : ClassId) (U : zU) (σ : zV) : va_W := U.mapIdx fun k d => (q k, zE q cI cZ σ k d)
abbrev zTy (cI cZ : ClassId) : List (ClassId × FieldType) := [(cI, .int), (cZ, .boolean)]
theorem zW_get {q : Nat → Nat} {cI cZ : ClassId} {U : zU} {σ : zV} {k : Nat} {d : zD} (h : U[k]? = some d) : (zW q cI cZ U σ)[k]? = some (q k, zE q cI cZ σ k d) := by
  simp [zW, List.getElem?_mapIdx, h]
theorem zE_off {q : Nat → Nat} {cI cZ : ClassId} {σ σ' : zV} {k : Nat} (h : σ' k = σ k) (d : zD) : zE q cI cZ σ' k d = zE q cI cZ σ k d := by
  unfold zE
  split <;> simp [h]
theorem zW_set {q : Nat → Nat} {cI cZ : ClassId} {U : zU} {σ σ' : zV} {k : Nat} {d : zD} (h : U[k]? = some d) (hs : ∀ j, j ≠ k → σ' j = σ j) : (zW q cI cZ U σ).set k (q k, zE q cI cZ σ' k d) = zW q cI cZ U σ' := by
  have hk : k < U.length := (List.getElem?_eq_some_iff.mp h).1
  apply List.ext_getElem?
  intro i
  by_cases hi : i = k
  · subst hi
    rw [List.getElem?_set_self (by simp [zW]; exact hk), zW_get h]
  · rw [List.getElem?_set_ne (Ne.symm hi)]
    cases hu : U[i]? with
    | none =>
      have := List.getElem?_eq_none_iff.mp hu
      rw [List.getElem?_eq_none (by simp [zW]; omega), List.getElem?_eq_none (by simp [zW]; omega)]
    | some x => rw [zW_get hu, zW_get hu, zE_off (hs i hi)]
theorem zput_off {σ : zV} {a k : Nat} {x : Int32} : ∀ j, j ≠ a → zput σ a k x j = σ j := fun j h => by simp [zput, va_up, h]
theorem zput_at {σ : zV} {a k : Nat} {x : Int32} : zput σ a k x a = upd (σ a) k x := by simp [zput, va_up]
theorem zE_put_a {q : Nat → Nat} {cI cZ : ClassId} {σ : zV} {a k n : Nat} {b : Bool} {x : Int32} : zE q cI cZ (zput σ a k x) a (.inl (b, n)) = .inl (if b = true then cZ else cI, n, .inl (upd (σ a) k x)) := by
  simp [zE, zput_at]
theorem zE_put_f {q : Nat → Nat} {cI cZ : ClassId} {σ : zV} {a k ci : Nat} {fs : List (Option Nat)} {x : Int32} (h : fs[k]? = some none) : zE q cI cZ (zput σ a k x) a (.inr (ci, fs)) = .inr (ci, (fs.mapIdx fun j f => match f with
    | some r => Value.ref (q r)
    | none => Value.int (σ a j)).set k (.int x)) := by
  have hk : k < fs.length := (List.getElem?_eq_some_iff.mp h).1
  simp only [zE, zput_at]
  congr 2
  apply List.ext_getElem?
  intro i
  by_cases hi : i = k
  · subst hi
    rw [List.getElem?_set_self (by simpa using hk), List.getElem?_mapIdx, h]
    simp [upd]
  · rw [List.getElem?_set_ne (Ne.symm hi), List.getElem?_mapIdx, List.getElem?_mapIdx]
    cases fs[i]? with
    | none => rfl
    | some f => cases f <;> simp [upd, hi]
/-! the locals -/
def zl (q : Nat → Nat) : Nat → List Value → List (Nat × Value)
  | _, [] => []
  | i, v :: t => match v with
    | .null => zl q (i + 1) t
    | w => (i, zc q w) :: zl q (i + 1) t
theorem zl_mem {q : Nat → Nat} {ls : List Value} : ∀ {i : Nat} {x : Nat × Value}, x ∈ zl q i ls ↔ ∃ (j : Nat) (v : Value), ls[j]? = some v ∧ v ≠ .null ∧ x = (i + j, zc q v) := by
  induction ls with
  | nil => intro i x; simp [zl]
  | cons v t ih =>
    intro i x
    have hs : (∃ (j : Nat) (w : Value), (v :: t)[j]? = some w ∧ w ≠ .null ∧ x = (i + j, zc q w)) ↔ ((v ≠ .null ∧ x = (i, zc q v)) ∨ ∃ (j : Nat) (w : Value), t[j]? = some w ∧ w ≠ .null ∧ x = (i + 1 + j, zc q w)) := by
      constructor
      · rintro ⟨j, w, h1, h2, h3⟩
        cases j with
        | zero => cases h1; exact Or.inl ⟨h2, h3⟩
        | succ j => exact Or.inr ⟨j, w, by simpa using h1, h2, by rw [h3]; congr 1; omega⟩
      · rintro (⟨h2, h3⟩ | ⟨j, w, h1, h2, h3⟩)
        · exact ⟨0, v, rfl, h2, h3⟩
        · exact ⟨j + 1, w, by simpa using h1, h2, by rw [h3]; congr 1; omega⟩
    have e : zl q i (v :: t) = if v = .null then zl q (i + 1) t else (i, zc q v) :: zl q (i + 1) t := by cases v <;> simp [zl]
    rw [hs, ← ih, e]
    by_cases hv : v = .null
    · rw [if_pos hv]
      exact ⟨fun h => Or.inr h, fun h => h.elim (fun z => absurd hv z.1) id⟩
    · rw [if_neg hv, List.mem_cons]
      exact ⟨Or.imp_left (fun z => ⟨hv, z⟩), Or.imp_left And.right⟩
theorem zl_at {q : Nat → Nat} {lsA : Array Slot} {nL : Nat} {ls : List Value} (h : lv_has lsA nL (zl q 0 ls)) {i : Nat} {v : Value} (hi : ls[i]? = some v) (hv : v ≠ .null) : lsA[i]? = some (.val (zc q v)) :=
  h.2.2 (i, zc q v) (zl_mem.mpr ⟨i, v, hi, hv, by simp⟩)
theorem zl_less {lsA : Array Slot} {nL : Nat} {l l' : List (Nat × Value)} (h : lv_has lsA nL l) (hs : ∀ x ∈ l', x ∈ l) : lv_has lsA nL l' := ⟨h.1, h.2.1, fun x hx => h.2.2 x (hs x hx)⟩
theorem zl_set1 {q : Nat → Nat} {lsA : Array Slot} {nL k : Nat} {ls : List Value} {w : Value} (hw : w ≠ .null) (hk : zok1 ls k) (h : lv_has lsA nL ((k, zc q w) :: (zl q 0 ls).filter (fun q => !(q.1 == k) && !(q.1 + 1 == k && q.2.category == 2)))) : lv_has lsA nL (zl q 0 (ls.set k w)) := by
  refine zl_less h (fun x hx => ?_)
  obtain ⟨j, v, h1, h2, rfl⟩ := zl_mem.mp hx
  simp only [Nat.zero_add]
  by_cases hj : j = k
  · subst hj
    have hl : j < ls.length := by
      have := (List.getElem?_eq_some_iff.mp h1).1
      simpa using this
    rw [List.getElem?_set_self hl] at h1
    cases h1
    exact List.mem_cons_self
  · rw [List.getElem?_set_ne (Ne.symm hj)] at h1
    refine List.mem_cons_of_mem _ (List.mem_filter.mpr ⟨zl_mem.mpr ⟨j, v, h1, h2, by simp⟩, ?_⟩)
    simp only [beq_iff_eq, Bool.and_eq_true, Bool.not_eq_true', Bool.and_eq_false_iff, beq_eq_false_iff_ne, ne_eq]
    refine ⟨hj, ?_⟩
    by_cases hjk : j + 1 = k
    · subst hjk
      right
      rw [zc_cat, hk v h1]
      decide
    · exact Or.inl hjk
theorem zl_set2 {q : Nat → Nat} {lsA : Array Slot} {nL k : Nat} {ls : List Value} {w : Value} (hw : w ≠ .null) (hk : zok1 ls k) (h : lv_has lsA nL ((k, zc q w) :: (zl q 0 ls).filter (fun q => !(q.1 == k) && (!(q.1 == k + 1) && !(q.1 + 1 == k && q.2.category == 2))))) : lv_has lsA nL (zl q 0 ((ls.set k w).set (k + 1) .null)) := by
  refine zl_less h (fun x hx => ?_)
  obtain ⟨j, v, h1, h2, rfl⟩ := zl_mem.mp hx
  simp only [Nat.zero_add]
  have hj1 : j ≠ k + 1 := by
    intro e
    subst e
    have hl : k + 1 < (ls.set k w).length := by
      have := (List.getElem?_eq_some_iff.mp h1).1
      simpa using this
    rw [List.getElem?_set_self hl] at h1
    cases h1
    exact h2 rfl
  rw [List.getElem?_set_ne (Ne.symm hj1)] at h1
  by_cases hj : j = k
  · subst hj
    have hl : j < ls.length := by
      have := (List.getElem?_eq_some_iff.mp h1).1
      simpa using this
    rw [List.getElem?_set_self hl] at h1
    cases h1
    exact List.mem_cons_self
  · rw [List.getElem?_set_ne (Ne.symm hj)] at h1
    refine List.mem_cons_of_mem _ (List.mem_filter.mpr ⟨zl_mem.mpr ⟨j, v, h1, h2, by simp⟩, ?_⟩)
    simp only [beq_iff_eq, Bool.and_eq_true, Bool.not_eq_true', Bool.and_eq_false_iff, beq_eq_false_iff_ne, ne_eq]
    refine ⟨hj, hj1, ?_⟩
    by_cases hjk : j + 1 = k
    · subst hjk
      right
      rw [zc_cat, hk v h1]
      decide
    · exact Or.inl hjk
theorem zia_args (q : Nat → Nat) : ∀ (as : List Value) (i j : Nat) (v : Value), (zia as)[j]? = some v → v ≠ .null → (i + j, zc q v) ∈ lv_args i (as.map (zc q)) := by
  intro as
  induction as with
  | nil => intro i j v h; simp [zia] at h
  | cons a t ih =>
    intro i j v h hv
    simp only [zia] at h
    simp only [List.map_cons, lv_args, zc_cat]
    by_cases hc : a.category = 2
    · rw [if_pos hc] at h
      rw [if_pos hc]
      match j, h with
      | 0, h => cases h; exact List.mem_cons_self
      | 1, h => exact absurd (by simpa using h.symm) hv
      | j + 2, h =>
        have := ih (i + 2) j v (by simpa using h) hv
        rw [show i + 2 + j = i + (j + 2) by omega] at this
        exact List.mem_cons_of_mem _ this
    · rw [if_neg hc] at h
      rw [if_neg hc]
      match j, h with
      | 0, h => cases h; exact List.mem_cons_self
      | j + 1, h =>
        have := ih (i + 1) j v (by simpa using h) hv
        rw [show i + 1 + j = i + (j + 1) by omega] at this
        exact List.mem_cons_of_mem _ this
theorem zia_len (q : Nat → Nat) (as : List Value) : (lg_sl (as.map (zc q))).length = (zia as).length := by
  induction as with
  | nil => rfl
  | cons a t ih =>
    simp only [lg_sl, List.map_cons, List.flatMap_cons, List.length_append, zia, zc_cat] at ih ⊢
    by_cases hc : a.category = 2 <;> simp [hc, ih] <;> omega
theorem zin_has {q : Nat → Nat} {lsA : Array Slot} {nL : Nat} {as : List Value} (h : lv_has lsA nL (lv_args 0 (as.map (zc q)))) : lv_has lsA nL (zl q 0 (zin nL as)) := by
  refine zl_less h (fun x hx => ?_)
  obtain ⟨j, v, h1, h2, rfl⟩ := zl_mem.mp hx
  unfold zin at h1
  by_cases hl : j < (zia as).length
  · rw [List.getElem?_append_left hl] at h1
    exact zia_args q as 0 j v h1 h2
  · rw [List.getElem?_append_right (by omega)] at h1
    exact absurd (List.eq_of_mem_replicate (List.mem_of_getElem? h1)) h2
