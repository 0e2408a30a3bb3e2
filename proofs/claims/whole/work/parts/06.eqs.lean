/-! one instruction as an equation -/
section ZQ
variable {U : zU} {call : zC} {own : String} {cc : ByteArray} {nL : Nat} {ret : Option FieldType} {scr : zS} {Q : zQ} {pc : Nat} {ls st r : List Value} {σ : zV}
theorem zEv_step (hc : zMono call) {i : Instr} {len : Nat} (hd : decode cc pc = .ok (i, len)) : zEv U call own cc nL ret scr Q pc ls st σ = zstep U call own nL ret scr Q (zEv U call own cc nL ret scr Q) i len pc ls st σ := by
  rw [zEv_eq hc]
  exact propext ⟨fun ⟨i', len', h1, h2⟩ => by rw [hd] at h1; cases h1; exact h2, fun h => ⟨_, _, hd, h⟩⟩
theorem q_iload_n (hc : zMono call) {k : Fin 4} {x : Int32} (hd : decode cc pc = .ok (.iload_n k, 1)) (h : ls[(k : Nat)]? = some (.int x)) : zEv U call own cc nL ret scr Q pc ls st σ = zEv U call own cc nL ret scr Q (pc + 1) ls (.int x :: st) σ := by
  rw [zEv_step hc hd]
  exact propext ⟨fun ⟨_, x', h1, h2⟩ => by rw [h] at h1; cases h1; exact h2, fun g => ⟨rfl, x, h, g⟩⟩
theorem q_iload (hc : zMono call) {k : Nat} {x : Int32} (hd : decode cc pc = .ok (.iload k, 2)) (h : ls[k]? = some (.int x)) : zEv U call own cc nL ret scr Q pc ls st σ = zEv U call own cc nL ret scr Q (pc + 2) ls (.int x :: st) σ := by
  rw [zEv_step hc hd]
  exact propext ⟨fun ⟨_, x', h1, h2⟩ => by rw [h] at h1; cases h1; exact h2, fun g => ⟨rfl, x, h, g⟩⟩
theorem q_lload_n (hc : zMono call) {k : Fin 4} {x : Int64} (hd : decode cc pc = .ok (.lload_n k, 1)) (h : ls[(k : Nat)]? = some (.long x)) : zEv U call own cc nL ret scr Q pc ls st σ = zEv U call own cc nL ret scr Q (pc + 1) ls (.long x :: st) σ := by
  rw [zEv_step hc hd]
  exact propext ⟨fun ⟨_, x', h1, h2⟩ => by rw [h] at h1; cases h1; exact h2, fun g => ⟨rfl, x, h, g⟩⟩
theorem q_lload (hc : zMono call) {k : Nat} {x : Int64} (hd : decode cc pc = .ok (.lload k, 2)) (h : ls[k]? = some (.long x)) : zEv U call own cc nL ret scr Q pc ls st σ = zEv U call own cc nL ret scr Q (pc + 2) ls (.long x :: st) σ := by
  rw [zEv_step hc hd]
  exact propext ⟨fun ⟨_, x', h1, h2⟩ => by rw [h] at h1; cases h1; exact h2, fun g => ⟨rfl, x, h, g⟩⟩
theorem q_aload_n (hc : zMono call) {k : Fin 4} {x : Nat} (hd : decode cc pc = .ok (.aload_n k, 1)) (h : ls[(k : Nat)]? = some (.ref x)) : zEv U call own cc nL ret scr Q pc ls st σ = zEv U call own cc nL ret scr Q (pc + 1) ls (.ref x :: st) σ := by
  rw [zEv_step hc hd]
  exact propext ⟨fun ⟨_, x', h1, h2⟩ => by rw [h] at h1; cases h1; exact h2, fun g => ⟨rfl, x, h, g⟩⟩
theorem q_istore_n (hc : zMono call) {k : Fin 4} {x : Int32} {ls' : List Value} (hd : decode cc pc = .ok (.istore_n k, 1)) (hn : (k : Nat) < nL) (hk : zok1 ls k) (hl : ls.set k (.int x) = ls') : zEv U call own cc nL ret scr Q pc ls (.int x :: r) σ = zEv U call own cc nL ret scr Q (pc + 1) ls' r σ := by
  rw [zEv_step hc hd, ← hl]
  exact propext ⟨fun ⟨_, x', r', h1, _, _, h2⟩ => by cases h1; exact h2, fun g => ⟨rfl, x, r, rfl, hn, hk, g⟩⟩
theorem q_istore (hc : zMono call) {k : Nat} {x : Int32} {ls' : List Value} (hd : decode cc pc = .ok (.istore k, 2)) (hn : k < nL) (hk : zok1 ls k) (hl : ls.set k (.int x) = ls') : zEv U call own cc nL ret scr Q pc ls (.int x :: r) σ = zEv U call own cc nL ret scr Q (pc + 2) ls' r σ := by
  rw [zEv_step hc hd, ← hl]
  exact propext ⟨fun ⟨_, x', r', h1, _, _, h2⟩ => by cases h1; exact h2, fun g => ⟨rfl, x, r, rfl, hn, hk, g⟩⟩
theorem q_lstore_n (hc : zMono call) {k : Fin 4} {x : Int64} {ls' : List Value} (hd : decode cc pc = .ok (.lstore_n k, 1)) (hn : (k : Nat) + 1 < nL) (hk : zok1 ls k) (hl : (ls.set k (.long x)).set (k + 1) .null = ls') : zEv U call own cc nL ret scr Q pc ls (.long x :: r) σ = zEv U call own cc nL ret scr Q (pc + 1) ls' r σ := by
  rw [zEv_step hc hd, ← hl]
  exact propext ⟨fun ⟨_, x', r', h1, _, _, h2⟩ => by cases h1; exact h2, fun g => ⟨rfl, x, r, rfl, hn, hk, g⟩⟩
theorem q_lstore (hc : zMono call) {k : Nat} {x : Int64} {ls' : List Value} (hd : decode cc pc = .ok (.lstore k, 2)) (hn : k + 1 < nL) (hk : zok1 ls k) (hl : (ls.set k (.long x)).set (k + 1) .null = ls') : zEv U call own cc nL ret scr Q pc ls (.long x :: r) σ = zEv U call own cc nL ret scr Q (pc + 2) ls' r σ := by
  rw [zEv_step hc hd, ← hl]
  exact propext ⟨fun ⟨_, x', r', h1, _, _, h2⟩ => by cases h1; exact h2, fun g => ⟨rfl, x, r, rfl, hn, hk, g⟩⟩
theorem q_iinc (hc : zMono call) {k : Nat} {n : Int} {x v : Int32} {ls' : List Value} (hd : decode cc pc = .ok (.iinc k n, 3)) (h : ls[k]? = some (.int x)) (hn : k < nL) (hk : zok1 ls k) (hv : Int32.ofInt n = v) (hl : ls.set k (.int (x + v)) = ls') : zEv U call own cc nL ret scr Q pc ls st σ = zEv U call own cc nL ret scr Q (pc + 3) ls' st σ := by
  rw [zEv_step hc hd, ← hl, ← hv]
  exact propext ⟨fun ⟨_, x', h1, _, _, h2⟩ => by rw [h] at h1; cases h1; exact h2, fun g => ⟨rfl, x, h, hn, hk, g⟩⟩
theorem q_iconst (hc : zMono call) {n : Int} {v : Int32} (hd : decode cc pc = .ok (.iconst n, 1)) (hv : Int32.ofInt n = v) : zEv U call own cc nL ret scr Q pc ls st σ = zEv U call own cc nL ret scr Q (pc + 1) ls (.int v :: st) σ := by
  rw [zEv_step hc hd, ← hv]
  exact propext ⟨fun h => h.2, fun g => ⟨rfl, g⟩⟩
theorem q_bipush (hc : zMono call) {n : Int} {v : Int32} (hd : decode cc pc = .ok (.bipush n, 2)) (hv : (Int8.ofInt n).toInt32 = v) : zEv U call own cc nL ret scr Q pc ls st σ = zEv U call own cc nL ret scr Q (pc + 2) ls (.int v :: st) σ := by
  rw [zEv_step hc hd, ← hv]
  exact propext ⟨fun h => h.2, fun g => ⟨rfl, g⟩⟩
theorem q_sipush (hc : zMono call) {n : Int} {v : Int32} (hd : decode cc pc = .ok (.sipush n, 3)) (hv : (Int16.ofInt n).toInt32 = v) : zEv U call own cc nL ret scr Q pc ls st σ = zEv U call own cc nL ret scr Q (pc + 3) ls (.int v :: st) σ := by
  rw [zEv_step hc hd, ← hv]
  exact propext ⟨fun h => h.2, fun g => ⟨rfl, g⟩⟩
theorem q_ldc_w (hc : zMono call) {idx : Nat} {v : Int32} (hd : decode cc pc = .ok (.ldc_w idx, 3)) (hv : zcG own idx = some v) : zEv U call own cc nL ret scr Q pc ls st σ = zEv U call own cc nL ret scr Q (pc + 3) ls (.int v :: st) σ := by
  rw [zEv_step hc hd]
  exact propext ⟨fun ⟨_, v', h1, h2⟩ => by rw [hv] at h1; cases h1; exact h2, fun g => ⟨rfl, v, hv, g⟩⟩
theorem q_ldc2_w (hc : zMono call) {idx : Nat} {v : Int64} (hd : decode cc pc = .ok (.ldc2_w idx, 3)) (hv : zlG own idx = some v) : zEv U call own cc nL ret scr Q pc ls st σ = zEv U call own cc nL ret scr Q (pc + 3) ls (.long v :: st) σ := by
  rw [zEv_step hc hd]
  exact propext ⟨fun ⟨_, v', h1, h2⟩ => by rw [hv] at h1; cases h1; exact h2, fun g => ⟨rfl, v, hv, g⟩⟩
theorem q_iadd (hc : zMono call) {x y : Int32} (hd : decode cc pc = .ok (.iadd, 1)) : zEv U call own cc nL ret scr Q pc ls (.int y :: .int x :: r) σ = zEv U call own cc nL ret scr Q (pc + 1) ls (.int (x + y) :: r) σ := by
  rw [zEv_step hc hd]
  exact propext ⟨fun ⟨_, x', y', r', h1, h2⟩ => by cases h1; exact h2, fun g => ⟨rfl, x, y, r, rfl, g⟩⟩
theorem q_isub (hc : zMono call) {x y : Int32} (hd : decode cc pc = .ok (.isub, 1)) : zEv U call own cc nL ret scr Q pc ls (.int y :: .int x :: r) σ = zEv U call own cc nL ret scr Q (pc + 1) ls (.int (x - y) :: r) σ := by
  rw [zEv_step hc hd]
  exact propext ⟨fun ⟨_, x', y', r', h1, h2⟩ => by cases h1; exact h2, fun g => ⟨rfl, x, y, r, rfl, g⟩⟩
theorem q_imul (hc : zMono call) {x y : Int32} (hd : decode cc pc = .ok (.imul, 1)) : zEv U call own cc nL ret scr Q pc ls (.int y :: .int x :: r) σ = zEv U call own cc nL ret scr Q (pc + 1) ls (.int (x * y) :: r) σ := by
  rw [zEv_step hc hd]
  exact propext ⟨fun ⟨_, x', y', r', h1, h2⟩ => by cases h1; exact h2, fun g => ⟨rfl, x, y, r, rfl, g⟩⟩
theorem q_iand (hc : zMono call) {x y : Int32} (hd : decode cc pc = .ok (.iand, 1)) : zEv U call own cc nL ret scr Q pc ls (.int y :: .int x :: r) σ = zEv U call own cc nL ret scr Q (pc + 1) ls (.int (x &&& y) :: r) σ := by
  rw [zEv_step hc hd]
  exact propext ⟨fun ⟨_, x', y', r', h1, h2⟩ => by cases h1; exact h2, fun g => ⟨rfl, x, y, r, rfl, g⟩⟩
theorem q_ior (hc : zMono call) {x y : Int32} (hd : decode cc pc = .ok (.ior, 1)) : zEv U call own cc nL ret scr Q pc ls (.int y :: .int x :: r) σ = zEv U call own cc nL ret scr Q (pc + 1) ls (.int (x ||| y) :: r) σ := by
  rw [zEv_step hc hd]
  exact propext ⟨fun ⟨_, x', y', r', h1, h2⟩ => by cases h1; exact h2, fun g => ⟨rfl, x, y, r, rfl, g⟩⟩
theorem q_ixor (hc : zMono call) {x y : Int32} (hd : decode cc pc = .ok (.ixor, 1)) : zEv U call own cc nL ret scr Q pc ls (.int y :: .int x :: r) σ = zEv U call own cc nL ret scr Q (pc + 1) ls (.int (x ^^^ y) :: r) σ := by
  rw [zEv_step hc hd]
  exact propext ⟨fun ⟨_, x', y', r', h1, h2⟩ => by cases h1; exact h2, fun g => ⟨rfl, x, y, r, rfl, g⟩⟩
theorem q_ishl (hc : zMono call) {x y : Int32} (hd : decode cc pc = .ok (.ishl, 1)) : zEv U call own cc nL ret scr Q pc ls (.int y :: .int x :: r) σ = zEv U call own cc nL ret scr Q (pc + 1) ls (.int (x <<< (y &&& 31)) :: r) σ := by
  rw [zEv_step hc hd]
  exact propext ⟨fun ⟨_, x', y', r', h1, h2⟩ => by cases h1; exact h2, fun g => ⟨rfl, x, y, r, rfl, g⟩⟩
theorem q_iushr (hc : zMono call) {x y : Int32} (hd : decode cc pc = .ok (.iushr, 1)) : zEv U call own cc nL ret scr Q pc ls (.int y :: .int x :: r) σ = zEv U call own cc nL ret scr Q (pc + 1) ls (.int (x.toUInt32 >>> (y.toUInt32 &&& Int32.toUInt32 31)).toInt32 :: r) σ := by
  rw [zEv_step hc hd]
  exact propext ⟨fun ⟨_, x', y', r', h1, h2⟩ => by cases h1; exact h2, fun g => ⟨rfl, x, y, r, rfl, g⟩⟩
theorem q_ladd (hc : zMono call) {x y : Int64} (hd : decode cc pc = .ok (.ladd, 1)) : zEv U call own cc nL ret scr Q pc ls (.long y :: .long x :: r) σ = zEv U call own cc nL ret scr Q (pc + 1) ls (.long (x + y) :: r) σ := by
  rw [zEv_step hc hd]
  exact propext ⟨fun ⟨_, x', y', r', h1, h2⟩ => by cases h1; exact h2, fun g => ⟨rfl, x, y, r, rfl, g⟩⟩
theorem q_lmul (hc : zMono call) {x y : Int64} (hd : decode cc pc = .ok (.lmul, 1)) : zEv U call own cc nL ret scr Q pc ls (.long y :: .long x :: r) σ = zEv U call own cc nL ret scr Q (pc + 1) ls (.long (x * y) :: r) σ := by
  rw [zEv_step hc hd]
  exact propext ⟨fun ⟨_, x', y', r', h1, h2⟩ => by cases h1; exact h2, fun g => ⟨rfl, x, y, r, rfl, g⟩⟩
theorem q_lcmp (hc : zMono call) {x y : Int64} (hd : decode cc pc = .ok (.lcmp, 1)) : zEv U call own cc nL ret scr Q pc ls (.long y :: .long x :: r) σ = zEv U call own cc nL ret scr Q (pc + 1) ls (.int (lg_cmp x y) :: r) σ := by
  rw [zEv_step hc hd]
  exact propext ⟨fun ⟨_, x', y', r', h1, h2⟩ => by cases h1; exact h2, fun g => ⟨rfl, x, y, r, rfl, g⟩⟩
theorem q_i2l (hc : zMono call) {x : Int32} (hd : decode cc pc = .ok (.i2l, 1)) : zEv U call own cc nL ret scr Q pc ls (.int x :: r) σ = zEv U call own cc nL ret scr Q (pc + 1) ls (.long x.toInt64 :: r) σ := by
  rw [zEv_step hc hd]
  exact propext ⟨fun ⟨_, x', r', h1, h2⟩ => by cases h1; exact h2, fun g => ⟨rfl, x, r, rfl, g⟩⟩
theorem q_dup (hc : zMono call) {v : Value} (hd : decode cc pc = .ok (.dup, 1)) (hv : v.category = 1) : zEv U call own cc nL ret scr Q pc ls (v :: r) σ = zEv U call own cc nL ret scr Q (pc + 1) ls (v :: v :: r) σ := by
  rw [zEv_step hc hd]
  exact propext ⟨fun ⟨_, x', r', h1, _, h2⟩ => by cases h1; exact h2, fun g => ⟨rfl, v, r, rfl, hv, g⟩⟩
theorem q_dup2 (hc : zMono call) {v w : Value} (hd : decode cc pc = .ok (.dup2, 1)) (hv : v.category = 1) (hw : w.category = 1) : zEv U call own cc nL ret scr Q pc ls (v :: w :: r) σ = zEv U call own cc nL ret scr Q (pc + 1) ls (v :: w :: v :: w :: r) σ := by
  rw [zEv_step hc hd]
  exact propext ⟨fun ⟨_, x', y', r', h1, _, _, h2⟩ => by cases h1; exact h2, fun g => ⟨rfl, v, w, r, rfl, hv, hw, g⟩⟩
theorem q_pop (hc : zMono call) {v : Value} (hd : decode cc pc = .ok (.pop, 1)) (hv : v.category = 1) : zEv U call own cc nL ret scr Q pc ls (v :: r) σ = zEv U call own cc nL ret scr Q (pc + 1) ls r σ := by
  rw [zEv_step hc hd]
  exact propext ⟨fun ⟨_, x', r', h1, _, h2⟩ => by cases h1; exact h2, fun g => ⟨rfl, v, r, rfl, hv, g⟩⟩
theorem q_goto (hc : zMono call) {off : Int} {t : Nat} (hd : decode cc pc = .ok (.goto off, 3)) (ht : (pc : Int) + off = (t : Int)) : zEv U call own cc nL ret scr Q pc ls st σ = zEv U call own cc nL ret scr Q t ls st σ := by
  rw [zEv_step hc hd]
  exact propext ⟨fun ⟨_, t', h1, h2⟩ => by rw [ht] at h1; cases h1; exact h2, fun g => ⟨rfl, t, ht, g⟩⟩
theorem q_if (hc : zMono call) {cd : Jvm.ClassFile.Cond} {off : Int} {t : Nat} {x : Int32} (hd : decode cc pc = .ok (.ifCond cd off, 3)) (ht : (pc : Int) + off = (t : Int)) : zEv U call own cc nL ret scr Q pc ls (.int x :: r) σ = ((zif cd x 0 → zEv U call own cc nL ret scr Q t ls r σ) ∧ (¬ zif cd x 0 → zEv U call own cc nL ret scr Q (pc + 3) ls r σ)) := by
  rw [zEv_step hc hd]
  exact propext ⟨fun ⟨_, x', r', t', h1, h2, h3, h4⟩ => by rw [ht] at h2; cases h2; cases h1; exact ⟨h3, h4⟩, fun g => ⟨rfl, x, r, t, rfl, ht, g.1, g.2⟩⟩
theorem q_icmp (hc : zMono call) {cd : Jvm.ClassFile.Cond} {off : Int} {t : Nat} {x y : Int32} (hd : decode cc pc = .ok (.if_icmp cd off, 3)) (ht : (pc : Int) + off = (t : Int)) : zEv U call own cc nL ret scr Q pc ls (.int y :: .int x :: r) σ = ((zif cd x y → zEv U call own cc nL ret scr Q t ls r σ) ∧ (¬ zif cd x y → zEv U call own cc nL ret scr Q (pc + 3) ls r σ)) := by
  rw [zEv_step hc hd]
  exact propext ⟨fun ⟨_, x', y', r', t', h1, h2, h3, h4⟩ => by rw [ht] at h2; cases h2; cases h1; exact ⟨h3, h4⟩, fun g => ⟨rfl, x, y, r, t, rfl, ht, g.1, g.2⟩⟩
theorem q_getI (hc : zMono call) {idx a ci k : Nat} {w n : Bool} {fs : List (Option Nat)} (hd : decode cc pc = .ok (.getfield idx, 3)) (hf : zfG own idx = some (ci, k, w, n)) (hU : U[a]? = some (.inr (ci, fs))) (hk : fs[k]? = some none) : zEv U call own cc nL ret scr Q pc ls (.ref a :: r) σ = zEv U call own cc nL ret scr Q (pc + 3) ls (.int (σ a k) :: r) σ := by
  rw [zEv_step hc hd]
  refine propext ⟨fun ⟨_, a', r', ci', k', w', n', fs', h1, h2, h3, h4⟩ => ?_, fun g => ⟨rfl, a, r, ci, k, w, n, fs, rfl, hf, hU, Or.inr ⟨hk, g⟩⟩⟩
  cases h1
  rw [hf] at h2; cases h2
  rw [hU] at h3; cases h3
  rcases h4 with ⟨b, h5, h6⟩ | ⟨h5, h6⟩
  · rw [hk] at h5; cases h5
  · exact h6
theorem q_getR (hc : zMono call) {idx a ci k b : Nat} {w n : Bool} {fs : List (Option Nat)} (hd : decode cc pc = .ok (.getfield idx, 3)) (hf : zfG own idx = some (ci, k, w, n)) (hU : U[a]? = some (.inr (ci, fs))) (hk : fs[k]? = some (some b)) : zEv U call own cc nL ret scr Q pc ls (.ref a :: r) σ = zEv U call own cc nL ret scr Q (pc + 3) ls (.ref b :: r) σ := by
  rw [zEv_step hc hd]
  refine propext ⟨fun ⟨_, a', r', ci', k', w', n', fs', h1, h2, h3, h4⟩ => ?_, fun g => ⟨rfl, a, r, ci, k, w, n, fs, rfl, hf, hU, Or.inl ⟨b, hk, g⟩⟩⟩
  cases h1
  rw [hf] at h2; cases h2
  rw [hU] at h3; cases h3
  rcases h4 with ⟨b, h5, h6⟩ | ⟨h5, h6⟩
  · rw [hk] at h5; cases h5; exact h6
  · rw [hk] at h5; cases h5
theorem q_put (hc : zMono call) {idx a ci k : Nat} {x : Int32} {fs : List (Option Nat)} (hd : decode cc pc = .ok (.putfield idx, 3)) (hf : zfG own idx = some (ci, k, true, false)) (hU : U[a]? = some (.inr (ci, fs))) (hk : fs[k]? = some none) : zEv U call own cc nL ret scr Q pc ls (.int x :: .ref a :: r) σ = zEv U call own cc nL ret scr Q (pc + 3) ls r (zput σ a k x) := by
  rw [zEv_step hc hd]
  refine propext ⟨fun ⟨_, x', a', r', ci', k', fs', h1, h2, h3, h4, h5⟩ => ?_, fun g => ⟨rfl, x, a, r, ci, k, fs, rfl, hf, hU, hk, g⟩⟩
  cases h1
  rw [hf] at h2; cases h2
  exact h5
theorem q_iald (hc : zMono call) {a n : Nat} {j : Int32} (hd : decode cc pc = .ok (.iaload, 1)) (hU : U[a]? = some (.inl (false, n))) : zEv U call own cc nL ret scr Q pc ls (.int j :: .ref a :: r) σ = (vp_in j n ∧ zEv U call own cc nL ret scr Q (pc + 1) ls (.int (σ a j.toNatClampNeg) :: r) σ) := by
  rw [zEv_step hc hd]
  refine propext ⟨fun ⟨_, j', a', r', h1, h2⟩ => ?_, fun g => ⟨rfl, j, a, r, rfl, Or.inl ⟨n, hU, g⟩⟩⟩
  cases h1
  rcases h2 with ⟨n', h3, h4⟩ | ⟨L, xs, h3, h4⟩
  · rw [hU] at h3; cases h3; exact h4
  · rw [hU] at h3; cases h3
theorem q_bald (hc : zMono call) {a n : Nat} {j : Int32} (hd : decode cc pc = .ok (.baload, 1)) (hU : U[a]? = some (.inl (true, n))) : zEv U call own cc nL ret scr Q pc ls (.int j :: .ref a :: r) σ = (vp_in j n ∧ zEv U call own cc nL ret scr Q (pc + 1) ls (.int (σ a j.toNatClampNeg) :: r) σ) := by
  rw [zEv_step hc hd]
  refine propext ⟨fun ⟨_, j', a', r', n', h1, h2, h3, h4⟩ => ?_, fun g => ⟨rfl, j, a, r, n, rfl, hU, g.1, g.2⟩⟩
  cases h1
  rw [hU] at h2; cases h2; exact ⟨h3, h4⟩
theorem q_iast (hc : zMono call) {a n : Nat} {j x : Int32} (hd : decode cc pc = .ok (.iastore, 1)) (hU : U[a]? = some (.inl (false, n))) : zEv U call own cc nL ret scr Q pc ls (.int x :: .int j :: .ref a :: r) σ = (vp_in j n ∧ zEv U call own cc nL ret scr Q (pc + 1) ls r (zput σ a j.toNatClampNeg x)) := by
  rw [zEv_step hc hd]
  refine propext ⟨fun ⟨_, x', j', a', r', n', h1, h2, h3, h4⟩ => ?_, fun g => ⟨rfl, x, j, a, r, n, rfl, hU, g.1, g.2⟩⟩
  cases h1
  rw [hU] at h2; cases h2; exact ⟨h3, h4⟩
theorem q_bast (hc : zMono call) {a n : Nat} {j x : Int32} (hd : decode cc pc = .ok (.bastore, 1)) (hU : U[a]? = some (.inl (true, n))) : zEv U call own cc nL ret scr Q pc ls (.int x :: .int j :: .ref a :: r) σ = (vp_in j n ∧ zEv U call own cc nL ret scr Q (pc + 1) ls r (zput σ a j.toNatClampNeg (vp_nar .boolean x))) := by
  rw [zEv_step hc hd]
  refine propext ⟨fun ⟨_, x', j', a', r', n', h1, h2, h3, h4⟩ => ?_, fun g => ⟨rfl, x, j, a, r, n, rfl, hU, g.1, g.2⟩⟩
  cases h1
  rw [hU] at h2; cases h2; exact ⟨h3, h4⟩
theorem q_alen (hc : zMono call) {a n : Nat} {b : Bool} (hd : decode cc pc = .ok (.arraylength, 1)) (hU : U[a]? = some (.inl (b, n))) : zEv U call own cc nL ret scr Q pc ls (.ref a :: r) σ = zEv U call own cc nL ret scr Q (pc + 1) ls (.int (nI n) :: r) σ := by
  rw [zEv_step hc hd]
  refine propext ⟨fun ⟨_, a', r', h1, h2⟩ => ?_, fun g => ⟨rfl, a, r, rfl, Or.inl ⟨b, n, hU, g⟩⟩⟩
  cases h1
  rcases h2 with ⟨b', n', h3, h4⟩ | ⟨L, xs, h3, h4⟩
  · rw [hU] at h3; cases h3; exact h4
  · rw [hU] at h3; cases h3
theorem q_iret (hc : zMono call) {v : Int32} (hd : decode cc pc = .ok (.ireturn, 1)) (hr : ret = some .int) : zEv U call own cc nL ret scr Q pc ls [.int v] σ = Q (some (.int v)) σ := by
  rw [zEv_step hc hd]
  exact propext ⟨fun ⟨_, v', ty, h1, _, _, h2⟩ => by cases h1; exact h2, fun g => ⟨rfl, v, .int, rfl, hr, rfl, g⟩⟩
theorem q_zret (hc : zMono call) {v : Int32} (hd : decode cc pc = .ok (.ireturn, 1)) (hr : ret = some .boolean) : zEv U call own cc nL ret scr Q pc ls [.int v] σ = (narrow .boolean (.int v) = .int v ∧ Q (some (.int v)) σ) := by
  rw [zEv_step hc hd]
  exact propext ⟨fun ⟨_, v', ty, h1, h3, h4, h2⟩ => by cases h1; rw [hr] at h3; cases h3; exact ⟨h4, h2⟩, fun g => ⟨rfl, v, .boolean, rfl, hr, g.1, g.2⟩⟩
theorem q_lret (hc : zMono call) {v : Int64} (hd : decode cc pc = .ok (.lreturn, 1)) (hr : ret = some .long) : zEv U call own cc nL ret scr Q pc ls [.long v] σ = Q (some (.long v)) σ := by
  rw [zEv_step hc hd]
  exact propext ⟨fun ⟨_, v', h1, _, h2⟩ => by cases h1; exact h2, fun g => ⟨rfl, v, rfl, hr, g⟩⟩
theorem q_vret (hc : zMono call) (hd : decode cc pc = .ok (.return_, 1)) (hr : ret = none) : zEv U call own cc nL ret scr Q pc ls [] σ = Q none σ := by
  rw [zEv_step hc hd]
  exact propext ⟨fun h => h.2.2.2, fun g => ⟨rfl, rfl, hr, g⟩⟩
theorem q_inv (hc : zMono call) {idx k a ci : Nat} {y : MethodName} {As : List Value} {fs : List (Option Nat)} {st' : List Value} (hd : decode cc pc = .ok (.invokevirtual idx, 3)) (hm : zmG own idx = some (y, As.length, k)) (hk : k < 2) (hU : U[a]? = some (.inr (ci, fs))) (hn : zNames[ci]? = some y.cls) (hr : zcat r) (hst : st' = As.reverse ++ .ref a :: r) : zEv U call own cc nL ret scr Q pc ls st' σ = call y (.ref a :: As) σ (fun v σ' => zEv U call own cc nL ret scr Q (pc + 3) ls (v.toList ++ r) σ') := by
  subst hst
  rw [zEv_step hc hd]
  refine propext ⟨fun ⟨_, y', k', a', r', As', ci', fs', h1, h2, h3, h4, h5, h6, h7⟩ => ?_, fun g => ⟨rfl, y, k, a, r, As, ci, fs, hm, hk, rfl, hU, hn, hr, g⟩⟩
  rw [hm] at h1
  simp only [Option.some.injEq, Prod.mk.injEq] at h1
  obtain ⟨rfl, hl, rfl⟩ := h1
  obtain ⟨e1, e2⟩ := List.append_inj h3 (by simpa using hl)
  have e3 := List.reverse_inj.mp e1
  subst e3
  cases e2
  exact h7
theorem q_ins (hc : zMono call) {idx : Nat} {y : MethodName} {As : List Value} {st' : List Value} (hd : decode cc pc = .ok (.invokestatic idx, 3)) (hm : zmG own idx = some (y, As.length, 2)) (hr : zcat r) (hst : st' = As.reverse ++ r) : zEv U call own cc nL ret scr Q pc ls st' σ = call y As σ (fun v σ' => zEv U call own cc nL ret scr Q (pc + 3) ls (v.toList ++ r) σ') := by
  subst hst
  rw [zEv_step hc hd]
  refine propext ⟨fun ⟨_, h⟩ => ?_, fun g => ⟨rfl, Or.inl ⟨y, r, As, hm, rfl, hr, g⟩⟩⟩
  rcases h with ⟨y', r', As', h1, h3, h6, h7⟩ | ⟨y', a, a0, n0, n1, sp, dp, n, r', h1, -⟩ | ⟨y', x1, x2, r', h1, -⟩
  · rw [hm] at h1
    simp only [Option.some.injEq, Prod.mk.injEq] at h1
    obtain ⟨rfl, hl, -⟩ := h1
    obtain ⟨e1, e2⟩ := List.append_inj h3 (by simpa using hl)
    have e3 := List.reverse_inj.mp e1
    subst e3
    subst e2
    exact h7
  · rw [hm] at h1
    simp at h1
  · rw [hm] at h1
    simp at h1
theorem q_max (hc : zMono call) {idx : Nat} {m : MethodName} {x y : Int32} (hd : decode cc pc = .ok (.invokestatic idx, 3)) (hm : zmG own idx = some (m, 2, 4)) (hr : zcat r) : zEv U call own cc nL ret scr Q pc ls (.int y :: .int x :: r) σ = zEv U call own cc nL ret scr Q (pc + 3) ls (.int (if x < y then y else x) :: r) σ := by
  rw [zEv_step hc hd]
  refine propext ⟨fun ⟨_, h⟩ => ?_, fun g => ⟨rfl, Or.inr (Or.inr ⟨m, x, y, r, hm, rfl, hr, g⟩)⟩⟩
  rcases h with ⟨y', r', As', h1, h3, h6, h7⟩ | ⟨y', a, a0, n0, n1, sp, dp, n, r', h1, -⟩ | ⟨y', x1, x2, r', h1, h2, h3, h4⟩
  · rw [hm] at h1
    simp at h1
  · rw [hm] at h1
    simp at h1
  · cases h2
    exact h4
theorem q_copy (hc : zMono call) {idx a a0 n0 n1 : Nat} {m : MethodName} {sp dp n : Int32} (hd : decode cc pc = .ok (.invokestatic idx, 3)) (hm : zmG own idx = some (m, 5, 3)) (hr : zcat r) (hU0 : U[a0]? = some (.inl (false, n0))) (hU1 : U[a]? = some (.inl (false, n1))) : zEv U call own cc nL ret scr Q pc ls (.int n :: .int dp :: .ref a :: .int sp :: .ref a0 :: r) σ = (¬ sp < 0 ∧ ¬ dp < 0 ∧ ¬ n < 0 ∧ sp.toNatClampNeg + n.toNatClampNeg ≤ n0 ∧ dp.toNatClampNeg + n.toNatClampNeg ≤ n1 ∧ zEv U call own cc nL ret scr Q (pc + 3) ls r (va_up σ a (va_cpy (σ a0) (σ a) sp.toNatClampNeg dp.toNatClampNeg n.toNatClampNeg))) := by
  rw [zEv_step hc hd]
  refine propext ⟨fun ⟨_, h⟩ => ?_, fun g => ⟨rfl, Or.inr (Or.inl ⟨m, a, a0, n0, n1, sp, dp, n, r, hm, rfl, hr, hU0, hU1, g⟩)⟩⟩
  rcases h with ⟨y', r', As', h1, h3, h6, h7⟩ | ⟨y', b, b0, m0, m1, sp', dp', n', r', h1, h2, h3, h4, h5, h6⟩ | ⟨y', x1, x2, r', h1, -⟩
  · rw [hm] at h1
    simp at h1
  · cases h2
    rw [hU0] at h4; cases h4
    rw [hU1] at h5; cases h5
    exact h6
  · rw [hm] at h1
    simp at h1
theorem q_tsw (hc : zMono call) {dflt lo hi : Int} {offs : Array Int} {len t : Nat} {x : Int32} (hd : decode cc pc = .ok (.tableswitch dflt lo hi offs, len)) (ht : (pc : Int) + dflt = (t : Int)) : zEv U call own cc nL ret scr Q pc ls (.int x :: r) σ = (((x.toInt < lo ∨ hi < x.toInt) → zEv U call own cc nL ret scr Q t ls r σ) ∧ (¬ x.toInt < lo → ¬ hi < x.toInt → ∃ (off : Int) (t : Nat), offs[(x.toInt - lo).toNat]? = some off ∧ (pc : Int) + off = (t : Int) ∧ zEv U call own cc nL ret scr Q t ls r σ)) := by
  rw [zEv_step hc hd]
  exact propext ⟨fun ⟨x', r', t', h1, h2, h3, h4⟩ => by rw [ht] at h2; cases h2; cases h1; exact ⟨h3, h4⟩, fun g => ⟨x, r, t, rfl, ht, g.1, g.2⟩⟩
theorem z_ne {p A B : Prop} : ((¬ p → A) ∧ (¬ ¬ p → B)) = ((¬ p → A) ∧ (p → B)) := propext ⟨fun h => ⟨h.1, fun g => h.2 (fun z => z g)⟩, fun h => ⟨h.1, fun g => h.2 (Classical.not_not.mp g)⟩⟩
theorem q_call {d : Nat} {y : MethodName} {as : List Value} {cc : ByteArray} {nL : Nat} {ret : Option FieldType} (hk : zkG y = some (cc, nL, ret)) (hl : (zia as).length ≤ nL) : zCall U (d + 1) y as σ Q = zEv U (zCall U d) y.cls cc nL ret none Q 0 (zin nL as) [] σ := by
  refine propext ⟨fun ⟨cc', nL', ret', h1, h2, h3⟩ => by rw [hk] at h1; cases h1; exact h3, fun g => ⟨cc, nL, ret, hk, hl, g⟩⟩
end ZQ
