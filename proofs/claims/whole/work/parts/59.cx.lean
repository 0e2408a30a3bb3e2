/-! the constructor of the class -/
def fsX5 : List Value := [.null, .null, .null, .null, .null, .int 0, .int 0, .int 0, .int 0, .int 0, .int 0, .int 0, .int 0, .int 0, .int 0]
def zqX (h : Nat) (x0 : Nat) (f0 : Nat → Nat) (x1 : Nat) (f1 : Nat → Nat) (x2 : Nat) (f2 : Nat → Nat) (x3 : Nat) (f3 : Nat → Nat) (x4 : Nat) (f4 : Nat → Nat) : Nat → Nat := fun k => [h, x0, f0 0, f0 1, f0 2, f0 3, x1, f1 0, f1 1, f1 2, f1 3, x2, f2 0, f2 1, f2 2, f2 3, f2 4, x3, f3 0, f3 1, x4, f4 0, f4 1, f4 2, f4 3, f4 4, f4 5, f4 6].getD k 0
theorem zfl {us : List Nat} {n : Nat} (h : us.length = n) : ∃ f : Nat → Nat, us = (List.range n).map f := by
  subst h
  refine ⟨fun k => us.getD k 0, List.ext_getElem? (fun i => ?_)⟩
  by_cases hi : i < us.length
  · rw [List.getElem?_map, List.getElem?_range hi, List.getElem?_eq_getElem hi]
    show some _ = some (us.getD i 0)
    rw [List.getD_eq_getElem?_getD, List.getElem?_eq_getElem hi]
    rfl
  · rw [List.getElem?_eq_none (by omega), List.getElem?_eq_none (by simp; omega)]
theorem zfl2 {us : List Nat} (h : us.length = 2) : ∃ f : Nat → Nat, us = [f 0, f 1] := by
  obtain ⟨f, rfl⟩ := zfl h
  exact ⟨f, rfl⟩
theorem zfl4 {us : List Nat} (h : us.length = 4) : ∃ f : Nat → Nat, us = [f 0, f 1, f 2, f 3] := by
  obtain ⟨f, rfl⟩ := zfl h
  exact ⟨f, rfl⟩
theorem zfl5 {us : List Nat} (h : us.length = 5) : ∃ f : Nat → Nat, us = [f 0, f 1, f 2, f 3, f 4] := by
  obtain ⟨f, rfl⟩ := zfl h
  exact ⟨f, rfl⟩
theorem zfl7 {us : List Nat} (h : us.length = 7) : ∃ f : Nat → Nat, us = [f 0, f 1, f 2, f 3, f 4, f 5, f 6] := by
  obtain ⟨f, rfl⟩ := zfl h
  exact ⟨f, rfl⟩
theorem zqX_W (cI cZ : ClassId) (h : Nat) (x0 : Nat) (f0 : Nat → Nat) (x1 : Nat) (f1 : Nat → Nat) (x2 : Nat) (f2 : Nat → Nat) (x3 : Nat) (f3 : Nat → Nat) (x4 : Nat) (f4 : Nat → Nat) : zob [] h 5 (((((fsX5.set 0 (.ref x0)).set 1 (.ref x1)).set 2 (.ref x2)).set 3 (.ref x3)).set 4 (.ref x4)) ((((([] ++ zob [] x0 4 (zset xsX4 [f0 0, f0 1, f0 2, f0 3] [.null, .null, .null, .null]) (zars cI cZ xsX4 [f0 0, f0 1, f0 2, f0 3])) ++ zob [] x1 0 (zset xsX0 [f1 0, f1 1, f1 2, f1 3] [.null, .null, .null, .null]) (zars cI cZ xsX0 [f1 0, f1 1, f1 2, f1 3])) ++ zob [] x2 1 (zset xsX1 [f2 0, f2 1, f2 2, f2 3, f2 4] [.null, .null, .null, .null, .null]) (zars cI cZ xsX1 [f2 0, f2 1, f2 2, f2 3, f2 4])) ++ zob [] x3 2 (zset xsX2 [f3 0, f3 1] [.null, .null]) (zars cI cZ xsX2 [f3 0, f3 1])) ++ zob [] x4 3 (zset xsX3 [f4 0, f4 1, f4 2, f4 3, f4 4, f4 5, f4 6] [.int 0, .null, .null, .null, .null, .null, .null, .null]) (zars cI cZ xsX3 [f4 0, f4 1, f4 2, f4 3, f4 4, f4 5, f4 6])) = zW (zqX h x0 f0 x1 f1 x2 f2 x3 f3 x4 f4) cI cZ (zUn false) (fun _ _ => 0) := by
  simp [zob, zset, zars, zCb, xsX0, xsX1, xsX2, xsX3, xsX4, fsX5, zW, zE, zUn, zUX, zqX, List.mapIdx_cons]
def zXp (D : va_G) (cI cZ : ClassId) (h sz : Nat) : Array Value → State → Prop := va_Pc [.ref h] (fun T => T.heap.size = sz ∧ va_P D vwCl (zob [] h 5 fsX5 []) T.heap ∧ va_K D vwCl (zTy cI cZ) T ∧ va_D (fun _ => True) (zob [] h 5 fsX5 []) ∧ zNw T)
def zXq (D : va_G) (cI cZ : ClassId) (h : Nat) (A : Nat → Prop) : Array Value → State → Outcome → State → Prop := va_Qv (fun u : (Nat → Nat) × zV => u.1 0 = h ∧ RX (sNew 2) u.2) (fun u t => va_P D vwCl (zW u.1 cI cZ (zUn false) u.2) t.heap ∧ va_D A (zW u.1 cI cZ (zUn false) u.2)) A
theorem zXp_blind {D : va_G} {cI cZ : ClassId} {h sz : Nat} : FrameBlind (zXp D cI cZ h sz) := by
  intro a V g mk q
  obtain ⟨h1, h2, h3, h4, h5, h6⟩ := q
  exact ⟨h1, h2, h3, va_K.moved (u := V) (U := V.calling g mk a) (Vm.Alike.refl V.vm) h4, h5, fun w hw hn => va_Nw.same (zisN_on hn) (u := V) (U := V.calling g mk a) rfl (h6 w hw hn)⟩
theorem ctorX_tail {Q : zQ} (hQ : ∀ σ', RX (sNew 2) σ' → Q none σ') : zEv (zUn false) (zCall (zUn false) 3) RX5 cX5_init 1 none none Q 59 [.ref 0] [] (fun _ _ => 0) := by
  have hm := zCall_mono (zUn false) 3
  rw [q_aload_n (x := 0) hm (by decide +kernel : decode cX5_init 59 = .ok (.aload_n 0, 1)) rfl, q_iconst (v := nI 2) hm (by decide +kernel : decode cX5_init 60 = .ok (.iconst 2, 1)) (by decide), q_inv (As := [.int (nI 2)]) (r := []) (st' := [.int (nI 2), .ref 0]) hm (by decide +kernel : decode cX5_init 61 = .ok (.invokevirtual 44, 3)) zm_RX5_44 (by omega) (u_0 false) zn_5 zcat_n rfl]
  refine X_again (b := false) (d := 0) (fun σ' h1 _ => ?_)
  simp only [z_toN, List.nil_append]
  rw [q_vret hm (by decide +kernel : decode cX5_init 64 = .ok (.return_, 1)) rfl]
  exact hQ σ' h1
set_option maxHeartbeats 2000000 in
theorem ctorX (l : Launch) (D : va_G) (cI cZ : ClassId) (h sz : Nat) : Met l yX5_init (.code yX5_init cX5_init 1 none :: zTs) { frames := 4, cells := 27, slots := 2530, locals := 144 } (zXp D cI cZ h sz) (zXq D cI cZ h (va_A (zob [] h 5 fsX5 []) sz)) 27 2530 (va_A (zob [] h 5 fsX5 []) sz) := by
  refine Met.ofW (cc := cX5_init) (maxL := 1) (ret := none) (by decide +kernel) rfl ?_
  intro p e s m args below meth c s₁ B hml hv
  obtain ⟨rfl, hsz, hP, hK, hD0, hN⟩ := hv
  have hts := atoms_spec (ws := .code yX5_init cX5_init 1 none :: zTs) B.pre
  have hts2 : ∀ w ∈ zTs, w.before [Value.ref h].toArray s = true := fun w hw => hts w (List.mem_cons_of_mem _ hw)
  have hown : s.vm.findClass RX5 = some m.cls := findClass_of_methodNamed B.named
  have hin : meth.name = "<init>" := (name_of_methodNamed B.named B.method).1
  subst hsz
  have hD := hD0.self (sz := s.heap.size)
  generalize hAe : va_A (zob [] h 5 fsX5 []) s.heap.size = A at hD ⊢
  have hA : ∀ q : Nat, s.heap.size ≤ q → A q := fun q h => by rw [← hAe]; exact Or.inr h
  have hl := lv_entry [.ref h] (n := 1) (Nat.le_of_ble_eq_true rfl)
  rw [lg_entry_eq]
  generalize (lg_sl [Value.ref h] ++ List.replicate (1 - (lg_sl [Value.ref h]).length) Slot.unset).toArray = ls at hl ⊢
  have hl : lv_has ls 1 [(0, .ref h)] := hl
  have F : ziFix p s m [Value.ref h].toArray meth c cX5_init 1 RX5 D cI cZ A := ⟨B.exec, B.bytes, hml, hown, hts2, hK, hA, hin⟩
  refine lv_aload_n B.exec B.bytes (by decide +kernel : decode cX5_init 0 = .ok (.aload_n 0, 1)) rfl (lv_at hl 0 rfl) ?_
  refine W.objInit B.exec B.bytes hown (hts2 _ (zTs_of (i := 83) (w := .methodLink RX5 1 objectInit) (by decide +kernel))) (hts2 _ zTs_ob.1) (hts2 _ zTs_ob.2) rfl (by rw [hml]; exact hl.1) rfl (by decide +kernel : decode cX5_init 1 = .ok (.invokespecial 1, 3)) (Nat.le_of_ble_eq_true rfl) (Nat.le_of_ble_eq_true rfl) ?_
  refine W.eq (g2 := F0 m 4 ls []) rfl ?_
  refine zi_obj (cells := 0) (slots := 0) (pc := 4) (wz := []) (fs := fsX5) (fs0 := [.null, .null, .null, .null]) (xs := xsX4) (N := 4) (nit := 4) (nsl := 1971) (y := yX4_init) (cy := cX4_init) (ty := tyX4) (T := TX4) (C := RX4) (NO := 15) F hN (by decide +kernel : decode cX5_init 4 = .ok (.aload_n 0, 1)) (by decide +kernel : decode cX5_init 5 = .ok (.new 7, 3)) (by decide +kernel : decode cX5_init 8 = .ok (.dup, 1)) (by decide +kernel : decode cX5_init 9 = .ok (.invokespecial 9, 3)) (by decide +kernel : decode cX5_init 12 = .ok (.putfield 10, 3)) rfl tyX4_ok (by decide) (zTs_of (i := 86) (by decide +kernel)) (zTs_of (i := 87) (by decide +kernel)) (zTs_of (i := 68) (by decide +kernel)) rfl rfl (zTn_of (i := 88) (by decide +kernel)) (zTs_of (i := 89) (by decide +kernel)) (zTs_of (i := 90) (by decide +kernel)) ⟨by decide, by decide, by decide +kernel⟩ (fun x sz => leafX4 l D cI cZ x sz) rfl (by decide) zf_RX5_10 rfl rfl (by decide +kernel) rfl ⟨Nat.le_of_ble_eq_true rfl, Nat.le_of_ble_eq_true rfl⟩ (Nat.le_of_ble_eq_true rfl) (Nat.le_of_ble_eq_true rfl) hl hP hD va_S.rf (fun x0 us0 H0 locs0 hu0 hP0 hD0 hS0 => ?_)
  refine W.widen (k := 5) (n := 1975) (Nat.le_of_ble_eq_true rfl) (Nat.le_of_ble_eq_true rfl) ?_
  refine W.eq (g2 := F0 m 15 ls []) rfl ?_
  refine zi_obj (cells := 5) (slots := 1975) (pc := 15) (wz := ([] ++ zob [] x0 4 (zset xsX4 us0 [.null, .null, .null, .null]) (zars cI cZ xsX4 us0))) (fs := (fsX5.set 0 (.ref x0))) (fs0 := [.null, .null, .null, .null]) (xs := xsX0) (N := 4) (nit := 4) (nsl := 24) (y := yX0_init) (cy := cX0_init) (ty := tyX0) (T := TX0) (C := RX0) (NO := 15) F hN (by decide +kernel : decode cX5_init 15 = .ok (.aload_n 0, 1)) (by decide +kernel : decode cX5_init 16 = .ok (.new 16, 3)) (by decide +kernel : decode cX5_init 19 = .ok (.dup, 1)) (by decide +kernel : decode cX5_init 20 = .ok (.invokespecial 18, 3)) (by decide +kernel : decode cX5_init 23 = .ok (.putfield 19, 3)) rfl tyX0_ok (by decide) (zTs_of (i := 107) (by decide +kernel)) (zTs_of (i := 108) (by decide +kernel)) (zTs_of (i := 69) (by decide +kernel)) rfl rfl (zTn_of (i := 109) (by decide +kernel)) (zTs_of (i := 110) (by decide +kernel)) (zTs_of (i := 111) (by decide +kernel)) ⟨by decide, by decide, by decide +kernel⟩ (fun x sz => leafX0 l D cI cZ x sz) rfl (by decide) zf_RX5_19 rfl rfl (by decide +kernel) rfl ⟨Nat.le_of_ble_eq_true rfl, Nat.le_of_ble_eq_true rfl⟩ (Nat.le_of_ble_eq_true rfl) (Nat.le_of_ble_eq_true rfl) hl hP0 hD0 hS0 (fun x1 us1 H1 locs1 hu1 hP1 hD1 hS1 => ?_)
  refine W.widen (k := 10) (n := 2003) (Nat.le_of_ble_eq_true rfl) (Nat.le_of_ble_eq_true rfl) ?_
  refine W.eq (g2 := F0 m 26 ls []) rfl ?_
  refine zi_obj (cells := 10) (slots := 2003) (pc := 26) (wz := (([] ++ zob [] x0 4 (zset xsX4 us0 [.null, .null, .null, .null]) (zars cI cZ xsX4 us0)) ++ zob [] x1 0 (zset xsX0 us1 [.null, .null, .null, .null]) (zars cI cZ xsX0 us1))) (fs := ((fsX5.set 0 (.ref x0)).set 1 (.ref x1))) (fs0 := [.null, .null, .null, .null, .null]) (xs := xsX1) (N := 5) (nit := 5) (nsl := 68) (y := yX1_init) (cy := cX1_init) (ty := tyX1) (T := TX1) (C := RX1) (NO := 15) F hN (by decide +kernel : decode cX5_init 26 = .ok (.aload_n 0, 1)) (by decide +kernel : decode cX5_init 27 = .ok (.new 23, 3)) (by decide +kernel : decode cX5_init 30 = .ok (.dup, 1)) (by decide +kernel : decode cX5_init 31 = .ok (.invokespecial 25, 3)) (by decide +kernel : decode cX5_init 34 = .ok (.putfield 26, 3)) rfl tyX1_ok (by decide) (zTs_of (i := 130) (by decide +kernel)) (zTs_of (i := 131) (by decide +kernel)) (zTs_of (i := 70) (by decide +kernel)) rfl rfl (zTn_of (i := 132) (by decide +kernel)) (zTs_of (i := 133) (by decide +kernel)) (zTs_of (i := 134) (by decide +kernel)) ⟨by decide, by decide, by decide +kernel⟩ (fun x sz => leafX1 l D cI cZ x sz) rfl (by decide) zf_RX5_26 rfl rfl (by decide +kernel) rfl ⟨Nat.le_of_ble_eq_true rfl, Nat.le_of_ble_eq_true rfl⟩ (Nat.le_of_ble_eq_true rfl) (Nat.le_of_ble_eq_true rfl) hl hP1 hD1 hS1 (fun x2 us2 H2 locs2 hu2 hP2 hD2 hS2 => ?_)
  refine W.widen (k := 16) (n := 2076) (Nat.le_of_ble_eq_true rfl) (Nat.le_of_ble_eq_true rfl) ?_
  refine W.eq (g2 := F0 m 37 ls []) rfl ?_
  refine zi_obj (cells := 16) (slots := 2076) (pc := 37) (wz := ((([] ++ zob [] x0 4 (zset xsX4 us0 [.null, .null, .null, .null]) (zars cI cZ xsX4 us0)) ++ zob [] x1 0 (zset xsX0 us1 [.null, .null, .null, .null]) (zars cI cZ xsX0 us1)) ++ zob [] x2 1 (zset xsX1 us2 [.null, .null, .null, .null, .null]) (zars cI cZ xsX1 us2))) (fs := (((fsX5.set 0 (.ref x0)).set 1 (.ref x1)).set 2 (.ref x2))) (fs0 := [.null, .null]) (xs := xsX2) (N := 2) (nit := 2) (nsl := 164) (y := yX2_init) (cy := cX2_init) (ty := tyX2) (T := TX2) (C := RX2) (NO := 15) F hN (by decide +kernel : decode cX5_init 37 = .ok (.aload_n 0, 1)) (by decide +kernel : decode cX5_init 38 = .ok (.new 30, 3)) (by decide +kernel : decode cX5_init 41 = .ok (.dup, 1)) (by decide +kernel : decode cX5_init 42 = .ok (.invokespecial 32, 3)) (by decide +kernel : decode cX5_init 45 = .ok (.putfield 33, 3)) rfl tyX2_ok (by decide) (zTs_of (i := 153) (by decide +kernel)) (zTs_of (i := 154) (by decide +kernel)) (zTs_of (i := 71) (by decide +kernel)) rfl rfl (zTn_of (i := 155) (by decide +kernel)) (zTs_of (i := 156) (by decide +kernel)) (zTs_of (i := 157) (by decide +kernel)) ⟨by decide, by decide, by decide +kernel⟩ (fun x sz => leafX2 l D cI cZ x sz) rfl (by decide) zf_RX5_33 rfl rfl (by decide +kernel) rfl ⟨Nat.le_of_ble_eq_true rfl, Nat.le_of_ble_eq_true rfl⟩ (Nat.le_of_ble_eq_true rfl) (Nat.le_of_ble_eq_true rfl) hl hP2 hD2 hS2 (fun x3 us3 H3 locs3 hu3 hP3 hD3 hS3 => ?_)
  refine W.widen (k := 19) (n := 2242) (Nat.le_of_ble_eq_true rfl) (Nat.le_of_ble_eq_true rfl) ?_
  refine W.eq (g2 := F0 m 48 ls []) rfl ?_
  refine zi_obj (cells := 19) (slots := 2242) (pc := 48) (wz := (((([] ++ zob [] x0 4 (zset xsX4 us0 [.null, .null, .null, .null]) (zars cI cZ xsX4 us0)) ++ zob [] x1 0 (zset xsX0 us1 [.null, .null, .null, .null]) (zars cI cZ xsX0 us1)) ++ zob [] x2 1 (zset xsX1 us2 [.null, .null, .null, .null, .null]) (zars cI cZ xsX1 us2)) ++ zob [] x3 2 (zset xsX2 us3 [.null, .null]) (zars cI cZ xsX2 us3))) (fs := ((((fsX5.set 0 (.ref x0)).set 1 (.ref x1)).set 2 (.ref x2)).set 3 (.ref x3))) (fs0 := [.int 0, .null, .null, .null, .null, .null, .null, .null]) (xs := xsX3) (N := 8) (nit := 7) (nsl := 280) (y := yX3_init) (cy := cX3_init) (ty := tyX3) (T := TX3) (C := RX3) (NO := 15) F hN (by decide +kernel : decode cX5_init 48 = .ok (.aload_n 0, 1)) (by decide +kernel : decode cX5_init 49 = .ok (.new 37, 3)) (by decide +kernel : decode cX5_init 52 = .ok (.dup, 1)) (by decide +kernel : decode cX5_init 53 = .ok (.invokespecial 39, 3)) (by decide +kernel : decode cX5_init 56 = .ok (.putfield 40, 3)) rfl tyX3_ok (by decide) (zTs_of (i := 167) (by decide +kernel)) (zTs_of (i := 168) (by decide +kernel)) (zTs_of (i := 72) (by decide +kernel)) rfl rfl (zTn_of (i := 169) (by decide +kernel)) (zTs_of (i := 170) (by decide +kernel)) (zTs_of (i := 171) (by decide +kernel)) ⟨by decide, by decide, by decide +kernel⟩ (fun x sz => leafX3 l D cI cZ x sz) rfl (by decide) zf_RX5_40 rfl rfl (by decide +kernel) rfl ⟨Nat.le_of_ble_eq_true rfl, Nat.le_of_ble_eq_true rfl⟩ (Nat.le_of_ble_eq_true rfl) (Nat.le_of_ble_eq_true rfl) hl hP3 hD3 hS3 (fun x4 us4 H4 locs4 hu4 hP4 hD4 hS4 => ?_)
  refine W.widen (k := 27) (n := 2530) (Nat.le_of_ble_eq_true rfl) (Nat.le_of_ble_eq_true rfl) ?_
  refine W.eq (g2 := F0 m 59 ls []) rfl ?_
  obtain ⟨f0, rfl⟩ := zfl4 (hu0 : us0.length = 4)
  obtain ⟨f1, rfl⟩ := zfl4 (hu1 : us1.length = 4)
  obtain ⟨f2, rfl⟩ := zfl5 (hu2 : us2.length = 5)
  obtain ⟨f3, rfl⟩ := zfl2 (hu3 : us3.length = 2)
  obtain ⟨f4, rfl⟩ := zfl7 (hu4 : us4.length = 7)
  have hP9 : va_P D vwCl (zW (zqX h x0 f0 x1 f1 x2 f2 x3 f3 x4 f4) cI cZ (zUn false) (fun _ _ => 0)) H4 := by rw [← zqX_W]; exact hP4
  have hD9 : va_D A (zW (zqX h x0 f0 x1 f1 x2 f2 x3 f3 x4 f4) cI cZ (zUn false) (fun _ _ => 0)) := by rw [← zqX_W]; exact hD4
  have hq0 : zqX h x0 f0 x1 f1 x2 f2 x3 f3 x4 f4 0 = h := rfl
  generalize zqX h x0 f0 x1 f1 x2 f2 x3 f3 x4 f4 = q at hP9 hD9 hq0
  have hlocks := B.notSynchronized
  let Q : zQ := fun v σ' => v = none ∧ RX (sNew 2) σ'
  have F2 : zFix p l { frames := 4, cells := 27, slots := 2530, locals := 144 } s m [Value.ref h].toArray c 27 2530 cX5_init 1 RX5 D q cI cZ A (zUn false) none (zCall (zUn false) 3) := by
    refine ⟨B.exec, B.bytes, hml, hown, hts2, hN, hK, hA, Nat.le_refl _, Nat.le_refl _, Nat.le_of_ble_eq_true rfl, Nat.le_of_ble_eq_true rfl, fun y as σ Q hc => ?_, fun k L xs h => by cases h⟩
    obtain ⟨cc', nL', ret', g1, g2, g3⟩ := zmet l D q cI cZ (zUn false) 3 y as σ Q hc
    exact ⟨cc', nL', ret', zRm 3, g1, Nat.le_refl _, by show 8 + (nL' + 11) + 36 * 3 ≤ 144; omega, rfl, rfl, g3⟩
  have E2 : zEnd p l e { frames := 4, cells := 27, slots := 2530, locals := 144 } s m [Value.ref h].toArray below meth c 27 2530 (MQ below (zXq D cI cZ h A) [Value.ref h].toArray s 27 2530 A) cX5_init none D q cI cZ A (zUn false) Q := by
    intro H locs pc lsA σ' hP' hD' hS'
    refine ⟨fun v ty _ h1 => (by cases h1), fun v _ h1 => (by cases h1), fun hd h1 h3 => ?_⟩
    exact W.vret B.exec B.bytes (by rw [B.returns]) (fun t ht hW => ⟨⟨(q, σ'), rfl, ⟨hq0, h3.2⟩, by rw [ht]; exact hP', hD'⟩, hS'.F ht⟩) hS'.2.2 hd
  refine zsound F2 E2 59 [.ref 0] [] (fun _ _ => 0) (ctorX_tail (fun σ' h => ⟨rfl, h⟩)) ls H4 locs4 ?_ hP9 hD9 hS4
  show lv_has ls 1 [(0, .ref (q 0))]
  rw [hq0]
  exact hl
