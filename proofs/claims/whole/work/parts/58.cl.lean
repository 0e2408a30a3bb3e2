/-! the constructors of the class: its leaves, and itself -/
def xsX0 : List zIt := [(0, 1, 4, false, 9), (1, 1, 4, true, 15), (2, 1, 4, false, 19), (3, 2, 12, false, 22)]
theorem xsX0_ok : zits cX0_init RX0 0 TX0 4 4 xsX0 :=
    ⟨⟨(by decide +kernel : decode cX0_init 4 = .ok (.aload_n 0, 1)), Or.inl ⟨_, (by decide +kernel : decode cX0_init 5 = .ok (.iconst 4, 1)), rfl, by decide⟩, (by decide +kernel : decode cX0_init 6 = .ok (.newarray .int, 2)), (by decide +kernel : decode cX0_init 8 = .ok (.putfield 9, 3)), zf_RX0_9, by decide, rfl, rfl, by decide +kernel, by decide⟩,
    ⟨⟨(by decide +kernel : decode cX0_init 11 = .ok (.aload_n 0, 1)), Or.inl ⟨_, (by decide +kernel : decode cX0_init 12 = .ok (.iconst 4, 1)), rfl, by decide⟩, (by decide +kernel : decode cX0_init 13 = .ok (.newarray .boolean, 2)), (by decide +kernel : decode cX0_init 15 = .ok (.putfield 15, 3)), zf_RX0_15, by decide, rfl, rfl, by decide +kernel, by decide⟩,
    ⟨⟨(by decide +kernel : decode cX0_init 18 = .ok (.aload_n 0, 1)), Or.inl ⟨_, (by decide +kernel : decode cX0_init 19 = .ok (.iconst 4, 1)), rfl, by decide⟩, (by decide +kernel : decode cX0_init 20 = .ok (.newarray .int, 2)), (by decide +kernel : decode cX0_init 22 = .ok (.putfield 19, 3)), zf_RX0_19, by decide, rfl, rfl, by decide +kernel, by decide⟩,
    ⟨⟨(by decide +kernel : decode cX0_init 25 = .ok (.aload_n 0, 1)), Or.inr (Or.inl ⟨_, (by decide +kernel : decode cX0_init 26 = .ok (.bipush 12, 2)), rfl, by decide⟩), (by decide +kernel : decode cX0_init 28 = .ok (.newarray .int, 2)), (by decide +kernel : decode cX0_init 30 = .ok (.putfield 22, 3)), zf_RX0_22, by decide, rfl, rfl, by decide +kernel, by decide⟩,
    trivial⟩⟩⟩⟩
theorem leafX0 (l : Launch) (D : va_G) (cI cZ : ClassId) (h sz : Nat) : Met l yX0_init (.code yX0_init cX0_init 1 none :: zTs) { frames := 1, cells := 4, slots := 24, locals := 36 } (zLp D cI cZ h 0 [.null, .null, .null, .null] sz) (zLq D cI cZ h 0 xsX0 [.null, .null, .null, .null] (va_A (zob [] h 0 [.null, .null, .null, .null] []) sz)) 4 24 (va_A (zob [] h 0 [.null, .null, .null, .null] []) sz) :=
  zi_leaf l D cI cZ (xs := xsX0) (T := TX0) (C := RX0) (N := 4) (by decide +kernel) rfl (zTs_of (i := 112) (by decide +kernel) : .methodLink RX0 3 objectInit ∈ zTs) rfl (by decide +kernel : decode cX0_init 0 = .ok (.aload_n 0, 1)) (by decide +kernel : decode cX0_init 1 = .ok (.invokespecial 3, 3)) xsX0_ok (by decide +kernel : decode cX0_init 33 = .ok (.return_, 1)) rfl h sz
def xsX1 : List zIt := [(0, 1, 4, false, 9), (1, 2, 16, false, 15), (2, 2, 16, false, 18), (3, 2, 16, false, 21), (4, 2, 16, false, 24)]
theorem xsX1_ok : zits cX1_init RX1 1 TX1 5 4 xsX1 :=
    ⟨⟨(by decide +kernel : decode cX1_init 4 = .ok (.aload_n 0, 1)), Or.inl ⟨_, (by decide +kernel : decode cX1_init 5 = .ok (.iconst 4, 1)), rfl, by decide⟩, (by decide +kernel : decode cX1_init 6 = .ok (.newarray .int, 2)), (by decide +kernel : decode cX1_init 8 = .ok (.putfield 9, 3)), zf_RX1_9, by decide, rfl, rfl, by decide +kernel, by decide⟩,
    ⟨⟨(by decide +kernel : decode cX1_init 11 = .ok (.aload_n 0, 1)), Or.inr (Or.inl ⟨_, (by decide +kernel : decode cX1_init 12 = .ok (.bipush 16, 2)), rfl, by decide⟩), (by decide +kernel : decode cX1_init 14 = .ok (.newarray .int, 2)), (by decide +kernel : decode cX1_init 16 = .ok (.putfield 15, 3)), zf_RX1_15, by decide, rfl, rfl, by decide +kernel, by decide⟩,
    ⟨⟨(by decide +kernel : decode cX1_init 19 = .ok (.aload_n 0, 1)), Or.inr (Or.inl ⟨_, (by decide +kernel : decode cX1_init 20 = .ok (.bipush 16, 2)), rfl, by decide⟩), (by decide +kernel : decode cX1_init 22 = .ok (.newarray .int, 2)), (by decide +kernel : decode cX1_init 24 = .ok (.putfield 18, 3)), zf_RX1_18, by decide, rfl, rfl, by decide +kernel, by decide⟩,
    ⟨⟨(by decide +kernel : decode cX1_init 27 = .ok (.aload_n 0, 1)), Or.inr (Or.inl ⟨_, (by decide +kernel : decode cX1_init 28 = .ok (.bipush 16, 2)), rfl, by decide⟩), (by decide +kernel : decode cX1_init 30 = .ok (.newarray .int, 2)), (by decide +kernel : decode cX1_init 32 = .ok (.putfield 21, 3)), zf_RX1_21, by decide, rfl, rfl, by decide +kernel, by decide⟩,
    ⟨⟨(by decide +kernel : decode cX1_init 35 = .ok (.aload_n 0, 1)), Or.inr (Or.inl ⟨_, (by decide +kernel : decode cX1_init 36 = .ok (.bipush 16, 2)), rfl, by decide⟩), (by decide +kernel : decode cX1_init 38 = .ok (.newarray .int, 2)), (by decide +kernel : decode cX1_init 40 = .ok (.putfield 24, 3)), zf_RX1_24, by decide, rfl, rfl, by decide +kernel, by decide⟩,
    trivial⟩⟩⟩⟩⟩
theorem leafX1 (l : Launch) (D : va_G) (cI cZ : ClassId) (h sz : Nat) : Met l yX1_init (.code yX1_init cX1_init 1 none :: zTs) { frames := 1, cells := 5, slots := 68, locals := 36 } (zLp D cI cZ h 1 [.null, .null, .null, .null, .null] sz) (zLq D cI cZ h 1 xsX1 [.null, .null, .null, .null, .null] (va_A (zob [] h 1 [.null, .null, .null, .null, .null] []) sz)) 5 68 (va_A (zob [] h 1 [.null, .null, .null, .null, .null] []) sz) :=
  zi_leaf l D cI cZ (xs := xsX1) (T := TX1) (C := RX1) (N := 5) (by decide +kernel) rfl (zTs_of (i := 135) (by decide +kernel) : .methodLink RX1 3 objectInit ∈ zTs) rfl (by decide +kernel : decode cX1_init 0 = .ok (.aload_n 0, 1)) (by decide +kernel : decode cX1_init 1 = .ok (.invokespecial 3, 3)) xsX1_ok (by decide +kernel : decode cX1_init 43 = .ok (.return_, 1)) rfl h sz
def xsX2 : List zIt := [(0, 1, 4, false, 9), (1, 3, 160, false, 15)]
theorem xsX2_ok : zits cX2_init RX2 2 TX2 2 4 xsX2 :=
    ⟨⟨(by decide +kernel : decode cX2_init 4 = .ok (.aload_n 0, 1)), Or.inl ⟨_, (by decide +kernel : decode cX2_init 5 = .ok (.iconst 4, 1)), rfl, by decide⟩, (by decide +kernel : decode cX2_init 6 = .ok (.newarray .int, 2)), (by decide +kernel : decode cX2_init 8 = .ok (.putfield 9, 3)), zf_RX2_9, by decide, rfl, rfl, by decide +kernel, by decide⟩,
    ⟨⟨(by decide +kernel : decode cX2_init 11 = .ok (.aload_n 0, 1)), Or.inr (Or.inr ⟨_, (by decide +kernel : decode cX2_init 12 = .ok (.sipush 160, 3)), rfl, by decide⟩), (by decide +kernel : decode cX2_init 15 = .ok (.newarray .int, 2)), (by decide +kernel : decode cX2_init 17 = .ok (.putfield 15, 3)), zf_RX2_15, by decide, rfl, rfl, by decide +kernel, by decide⟩,
    trivial⟩⟩
theorem leafX2 (l : Launch) (D : va_G) (cI cZ : ClassId) (h sz : Nat) : Met l yX2_init (.code yX2_init cX2_init 1 none :: zTs) { frames := 1, cells := 2, slots := 164, locals := 36 } (zLp D cI cZ h 2 [.null, .null] sz) (zLq D cI cZ h 2 xsX2 [.null, .null] (va_A (zob [] h 2 [.null, .null] []) sz)) 2 164 (va_A (zob [] h 2 [.null, .null] []) sz) :=
  zi_leaf l D cI cZ (xs := xsX2) (T := TX2) (C := RX2) (N := 2) (by decide +kernel) rfl (zTs_of (i := 158) (by decide +kernel) : .methodLink RX2 3 objectInit ∈ zTs) rfl (by decide +kernel : decode cX2_init 0 = .ok (.aload_n 0, 1)) (by decide +kernel : decode cX2_init 1 = .ok (.invokespecial 3, 3)) xsX2_ok (by decide +kernel : decode cX2_init 20 = .ok (.return_, 1)) rfl h sz
def xsX3 : List zIt := [(1, 2, 40, false, 9), (2, 2, 40, false, 15), (3, 2, 40, false, 18), (4, 2, 40, false, 21), (5, 2, 40, false, 24), (6, 2, 40, false, 27), (7, 2, 40, false, 30)]
theorem xsX3_ok : zits cX3_init RX3 3 TX3 8 4 xsX3 :=
    ⟨⟨(by decide +kernel : decode cX3_init 4 = .ok (.aload_n 0, 1)), Or.inr (Or.inl ⟨_, (by decide +kernel : decode cX3_init 5 = .ok (.bipush 40, 2)), rfl, by decide⟩), (by decide +kernel : decode cX3_init 7 = .ok (.newarray .int, 2)), (by decide +kernel : decode cX3_init 9 = .ok (.putfield 9, 3)), zf_RX3_9, by decide, rfl, rfl, by decide +kernel, by decide⟩,
    ⟨⟨(by decide +kernel : decode cX3_init 12 = .ok (.aload_n 0, 1)), Or.inr (Or.inl ⟨_, (by decide +kernel : decode cX3_init 13 = .ok (.bipush 40, 2)), rfl, by decide⟩), (by decide +kernel : decode cX3_init 15 = .ok (.newarray .int, 2)), (by decide +kernel : decode cX3_init 17 = .ok (.putfield 15, 3)), zf_RX3_15, by decide, rfl, rfl, by decide +kernel, by decide⟩,
    ⟨⟨(by decide +kernel : decode cX3_init 20 = .ok (.aload_n 0, 1)), Or.inr (Or.inl ⟨_, (by decide +kernel : decode cX3_init 21 = .ok (.bipush 40, 2)), rfl, by decide⟩), (by decide +kernel : decode cX3_init 23 = .ok (.newarray .int, 2)), (by decide +kernel : decode cX3_init 25 = .ok (.putfield 18, 3)), zf_RX3_18, by decide, rfl, rfl, by decide +kernel, by decide⟩,
    ⟨⟨(by decide +kernel : decode cX3_init 28 = .ok (.aload_n 0, 1)), Or.inr (Or.inl ⟨_, (by decide +kernel : decode cX3_init 29 = .ok (.bipush 40, 2)), rfl, by decide⟩), (by decide +kernel : decode cX3_init 31 = .ok (.newarray .int, 2)), (by decide +kernel : decode cX3_init 33 = .ok (.putfield 21, 3)), zf_RX3_21, by decide, rfl, rfl, by decide +kernel, by decide⟩,
    ⟨⟨(by decide +kernel : decode cX3_init 36 = .ok (.aload_n 0, 1)), Or.inr (Or.inl ⟨_, (by decide +kernel : decode cX3_init 37 = .ok (.bipush 40, 2)), rfl, by decide⟩), (by decide +kernel : decode cX3_init 39 = .ok (.newarray .int, 2)), (by decide +kernel : decode cX3_init 41 = .ok (.putfield 24, 3)), zf_RX3_24, by decide, rfl, rfl, by decide +kernel, by decide⟩,
    ⟨⟨(by decide +kernel : decode cX3_init 44 = .ok (.aload_n 0, 1)), Or.inr (Or.inl ⟨_, (by decide +kernel : decode cX3_init 45 = .ok (.bipush 40, 2)), rfl, by decide⟩), (by decide +kernel : decode cX3_init 47 = .ok (.newarray .int, 2)), (by decide +kernel : decode cX3_init 49 = .ok (.putfield 27, 3)), zf_RX3_27, by decide, rfl, rfl, by decide +kernel, by decide⟩,
    ⟨⟨(by decide +kernel : decode cX3_init 52 = .ok (.aload_n 0, 1)), Or.inr (Or.inl ⟨_, (by decide +kernel : decode cX3_init 53 = .ok (.bipush 40, 2)), rfl, by decide⟩), (by decide +kernel : decode cX3_init 55 = .ok (.newarray .int, 2)), (by decide +kernel : decode cX3_init 57 = .ok (.putfield 30, 3)), zf_RX3_30, by decide, rfl, rfl, by decide +kernel, by decide⟩,
    trivial⟩⟩⟩⟩⟩⟩⟩
theorem leafX3 (l : Launch) (D : va_G) (cI cZ : ClassId) (h sz : Nat) : Met l yX3_init (.code yX3_init cX3_init 1 none :: zTs) { frames := 1, cells := 7, slots := 280, locals := 36 } (zLp D cI cZ h 3 [.int 0, .null, .null, .null, .null, .null, .null, .null] sz) (zLq D cI cZ h 3 xsX3 [.int 0, .null, .null, .null, .null, .null, .null, .null] (va_A (zob [] h 3 [.int 0, .null, .null, .null, .null, .null, .null, .null] []) sz)) 7 280 (va_A (zob [] h 3 [.int 0, .null, .null, .null, .null, .null, .null, .null] []) sz) :=
  zi_leaf l D cI cZ (xs := xsX3) (T := TX3) (C := RX3) (N := 8) (by decide +kernel) rfl (zTs_of (i := 172) (by decide +kernel) : .methodLink RX3 3 objectInit ∈ zTs) rfl (by decide +kernel : decode cX3_init 0 = .ok (.aload_n 0, 1)) (by decide +kernel : decode cX3_init 1 = .ok (.invokespecial 3, 3)) xsX3_ok (by decide +kernel : decode cX3_init 60 = .ok (.return_, 1)) rfl h sz
def xsX4 : List zIt := [(0, 1, 3, false, 9), (1, 2, 48, false, 15), (2, 3, 960, false, 18), (3, 3, 960, false, 21)]
theorem xsX4_ok : zits cX4_init RX4 4 TX4 4 4 xsX4 :=
    ⟨⟨(by decide +kernel : decode cX4_init 4 = .ok (.aload_n 0, 1)), Or.inl ⟨_, (by decide +kernel : decode cX4_init 5 = .ok (.iconst 3, 1)), rfl, by decide⟩, (by decide +kernel : decode cX4_init 6 = .ok (.newarray .int, 2)), (by decide +kernel : decode cX4_init 8 = .ok (.putfield 9, 3)), zf_RX4_9, by decide, rfl, rfl, by decide +kernel, by decide⟩,
    ⟨⟨(by decide +kernel : decode cX4_init 11 = .ok (.aload_n 0, 1)), Or.inr (Or.inl ⟨_, (by decide +kernel : decode cX4_init 12 = .ok (.bipush 48, 2)), rfl, by decide⟩), (by decide +kernel : decode cX4_init 14 = .ok (.newarray .int, 2)), (by decide +kernel : decode cX4_init 16 = .ok (.putfield 15, 3)), zf_RX4_15, by decide, rfl, rfl, by decide +kernel, by decide⟩,
    ⟨⟨(by decide +kernel : decode cX4_init 19 = .ok (.aload_n 0, 1)), Or.inr (Or.inr ⟨_, (by decide +kernel : decode cX4_init 20 = .ok (.sipush 960, 3)), rfl, by decide⟩), (by decide +kernel : decode cX4_init 23 = .ok (.newarray .int, 2)), (by decide +kernel : decode cX4_init 25 = .ok (.putfield 18, 3)), zf_RX4_18, by decide, rfl, rfl, by decide +kernel, by decide⟩,
    ⟨⟨(by decide +kernel : decode cX4_init 28 = .ok (.aload_n 0, 1)), Or.inr (Or.inr ⟨_, (by decide +kernel : decode cX4_init 29 = .ok (.sipush 960, 3)), rfl, by decide⟩), (by decide +kernel : decode cX4_init 32 = .ok (.newarray .int, 2)), (by decide +kernel : decode cX4_init 34 = .ok (.putfield 21, 3)), zf_RX4_21, by decide, rfl, rfl, by decide +kernel, by decide⟩,
    trivial⟩⟩⟩⟩
theorem leafX4 (l : Launch) (D : va_G) (cI cZ : ClassId) (h sz : Nat) : Met l yX4_init (.code yX4_init cX4_init 1 none :: zTs) { frames := 1, cells := 4, slots := 1971, locals := 36 } (zLp D cI cZ h 4 [.null, .null, .null, .null] sz) (zLq D cI cZ h 4 xsX4 [.null, .null, .null, .null] (va_A (zob [] h 4 [.null, .null, .null, .null] []) sz)) 4 1971 (va_A (zob [] h 4 [.null, .null, .null, .null] []) sz) :=
  zi_leaf l D cI cZ (xs := xsX4) (T := TX4) (C := RX4) (N := 4) (by decide +kernel) rfl (zTs_of (i := 91) (by decide +kernel) : .methodLink RX4 3 objectInit ∈ zTs) rfl (by decide +kernel : decode cX4_init 0 = .ok (.aload_n 0, 1)) (by decide +kernel : decode cX4_init 1 = .ok (.invokespecial 3, 3)) xsX4_ok (by decide +kernel : decode cX4_init 37 = .ok (.return_, 1)) rfl h sz
theorem va_nd_of : ∀ l : List Nat, l.Nodup → va_nd l = true := by
  intro l
  induction l with
  | nil => intro _; rfl
  | cons a t ih =>
    intro h
    rw [List.nodup_cons] at h
    show (decide (a ∉ t) && va_nd t) = true
    rw [ih h.2, Bool.and_true, decide_eq_true_eq]
    exact h.1
theorem zrng {w0 w2 : va_W} {n : Nat} (hn : w0.length = n) : (List.range n).map (fun i => (w0 ++ w2)[i]?) = w0.map some := by
  subst hn
  apply List.ext_getElem?
  intro i
  by_cases hi : i < w0.length
  · rw [List.getElem?_map, List.getElem?_range hi, List.getElem?_map]
    show some ((w0 ++ w2)[i]?) = _
    rw [List.getElem?_append_left hi, List.getElem?_eq_getElem hi]
    rfl
  · rw [List.getElem?_eq_none (by simp; omega), List.getElem?_eq_none (by simp; omega)]
theorem zend {w0 : va_W} {n : Nat} {y : Nat × va_E} (hn : w0.length = n) : (w0 ++ [y])[n]? = some y := by
  subst hn
  rw [List.getElem?_append_right (Nat.le_refl _), Nat.sub_self]
  rfl
theorem zob_len {wz : va_W} {h ci : Nat} {fs : List Value} : (zob [] h ci fs wz).length = wz.length + 1 := by simp [zob]
section ZI2
variable {p : Program} {l : Launch} {e : Env} {R : Room} {s : State} {m : MethodId} {args : Array Value} {below : List Frame} {meth : Method} {c : Code} {Z : State → Prop}
variable {cc : ByteArray} {nL : Nat} {own : String} {D : va_G} {cI cZ : ClassId} {A : Nat → Prop}
set_option maxHeartbeats 1000000 in
theorem zi_obj {H : Heap} {locs : List Loc} {cells slots : Nat} (F : ziFix p s m args meth c cc nL own D cI cZ A) (hN : zNw s) {pc i1 i2 i3 k ci N cO NO h nit nsl : Nat} {T TO : u_T} {C CO : String} {y : MethodName} {cy : ByteArray} {ty : Nat → FieldType} {xs : List zIt} {fs0 fs : List Value} {wz : va_W} {lsA : Array Slot}
    (d0 : decode cc pc = .ok (.aload_n 0, 1)) (d1 : decode cc (pc + 1) = .ok (.new i1, 3)) (d2 : decode cc (pc + 1 + 3) = .ok (.dup, 1)) (d3 : decode cc (pc + 1 + 3 + 1) = .ok (.invokespecial i2, 3)) (d4 : decode cc (pc + 1 + 3 + 1 + 3) = .ok (.putfield i3, 3))
    (hc : vwCl[ci]? = some (C, T, N)) (hty : ∀ k, k < N → parseFieldDescriptor (T k).2.2.1 = some (ty k)) (hdf : ∀ j, j < N → defaultValue (ty j) = vp_V fs0 j)
    (wcl : .classLink own i1 C ∈ zTs) (wins : .instantiable C N ∈ zTs) (wini : .initialized C ∈ zTs)
    (hyc : y.cls = C) (hyi : y.name = "<init>") (wml : .methodLinkNest own i2 y "ShootDown" ∈ lw_tbl) (wim : .instanceMethod y ∈ zTs) (wcode : .code y cy 1 none ∈ zTs)
    (hyd : y.cls ≠ "java/lang/invoke/MethodHandle" ∧ y.cls ≠ "java/lang/invoke/VarHandle" ∧ (parseMethodDescriptor y.desc).map (fun d => d.parameters.length) = some 0)
    (hM : ∀ x sz, Met l y (.code y cy 1 none :: zTs) { frames := 1, cells := nit, slots := nsl, locals := 36 } (zLp D cI cZ x ci fs0 sz) (zLq D cI cZ x ci xs fs0 (va_A (zob [] x ci fs0 []) sz)) nit nsl (va_A (zob [] x ci fs0 []) sz))
    (hcO : vwCl[cO]? = some (CO, TO, NO)) (hk : k < NO) (hf : zfG own i3 = some (cO, k, false, false)) (hfin : (TO k).2.2.2 = true) (hdecl : (TO k).1 = own) (htyO : parseFieldDescriptor (TO k).2.2.1 = some (.object C)) (hfs : fs.length = NO)
    (hR : 2 ≤ R.frames ∧ 56 ≤ R.locals) (hcells : cells + 1 + nit ≤ R.cells) (hslots : slots + N + nsl ≤ R.slots)
    (hl : lv_has lsA nL [(0, .ref h)]) (hP : va_P D vwCl (zob [] h cO fs wz) H) (hD : va_D A (zob [] h cO fs wz)) (hS : va_S A s.heap H locs)
    (kk : ∀ (x : Nat) (us : List Nat) (H1 : Heap) (locs1 : List Loc), us.length = xs.length → va_P D vwCl (zob [] h cO (fs.set k (.ref x)) (wz ++ zob [] x ci (zset xs us fs0) (zars cI cZ xs us))) H1 → va_D A (zob [] h cO (fs.set k (.ref x)) (wz ++ zob [] x ci (zset xs us fs0) (zars cI cZ xs us))) → va_S A s.heap H1 locs1 → W p l e R s m args below meth c H1 locs1 (cells + 1 + nit) (slots + N + nsl) Z (F0 m (pc + 1 + 3 + 1 + 3 + 3) lsA [])) : W p l e R s m args below meth c H locs cells slots Z (F0 m pc lsA []) := by
  obtain ⟨hx, hb, hml, hown, hts, hK, hA, hin⟩ := F
  refine lv_aload_n hx hb d0 rfl (lv_at hl 0 rfl) ?_
  refine va_new (ci := ci) (fs := fs0) (C := C) (T := T) (N := N) hx hb hts (zinX ci _ hc) ty hty hown (hts _ wcl) (hts _ wins) (hts _ wini) hK hP hD hS hA hc hdf (by omega) (by omega) d1 (fun x H1 hP1 hD1 hS1 => ?_)
  refine lv_dup hx hb d2 rfl ?_
  have he := zend (w0 := zob [] h cO fs wz) (y := (x, .inr (ci, fs0))) zob_len
  have hPc : va_P D vwCl (zob [] x ci fs0 []) H1 := hP1.sub [wz.length + 1] (by simp only [List.filterMap_cons, he, List.filterMap_nil]; rfl)
  have hDc : va_D A (zob [] x ci fs0 []) := hD1.sub [wz.length + 1] rfl (by simp only [List.map_cons, he, List.map_nil]; rfl)
  have hFc := va_free (wc := zob [] x ci fs0 []) hD1 hS1 hA [wz.length + 1] (by simp only [List.map_cons, he, List.map_nil]; rfl)
  refine va_callv (va_runIN (As := []) (rest := [.ref x, .ref h]) (host := "ShootDown") ⟨hx, hb, hml, hown, hts⟩ (hM x H1.size) ⟨va_cnB 0 hts (zgood wcode) rfl rfl rfl (hN _ wml rfl) (by rw [hyc]; exact hts _ wini) hyd ⟨hR.1, hR.2⟩, hyi, hts _ wim⟩ ⟨zLp_blind, fun U hU hW => ⟨rfl, by rw [hU], by rw [hU]; exact hPc, va_K.moved hW.alike hK, hDc.weaken (fun _ _ _ _ => trivial)⟩⟩ rfl rfl hl.1 rfl (lv_room (Nat.le_of_ble_eq_true rfl)) d3 ⟨hcells, hslots⟩) hS1 (fun q _ h => hFc q h) hFc (fun u t H2 locs2 ht hvm hw hB hz1 hk1 hS2 => ?_)
  obtain ⟨hP2, hD2⟩ := hB
  rw [ht] at hP2
  obtain ⟨hP3, hD3⟩ := va_join (wr := zob [] h cO fs wz) (wc := zob [] x ci fs0 []) hP1 hD1 [wz.length + 1] (List.range (wz.length + 1)) (by simp only [List.map_cons, he, List.map_nil]; rfl) (zrng zob_len) (va_nd_of _ List.nodup_range) (fun i hi hi2 => by rw [List.mem_range] at hi; rw [List.mem_singleton] at hi2; omega) hk1 hFc hP2 hD2
  rw [zob_app] at hP3 hD3
  obtain ⟨ty0, hty0, hnm⟩ := zty cO _ hcO
  refine va_putF hx hb hts (zinX cO _ hcO) ty0 hty0 hnm hown hK hP3 hD3 hS2 ([] : va_W).length zob_at hcO k hk (hts _ (zi_link hf hcO)) (fun x h => h) hfin hin hdecl htyO (v := .ref x) rfl rfl (by omega) d4 (fun H3 locs3 hP4 hD4 hS4 => ?_)
  rw [zob_set] at hP4 hD4
  exact kk x u H3 locs3 hw hP4 hD4 hS4
end ZI2
