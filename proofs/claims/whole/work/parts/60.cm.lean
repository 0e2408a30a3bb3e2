/-! the constructor of the model -/
def fsX6 : List Value := [.int 0, .int 0, .int 0, .int 0, .null, .null, .null, .null, .null, .null, .null, .null, .null, .null, .null, .null, .int 0, .null, .null, .null, .null, .null, .null, .null, .int 0, .int 0, .int 0, .int 0, .int 0, .int 0]
def xsX6 : List zIt := [(4, 2, 48, false, 7), (5, 1, 3, false, 13), (6, 2, 48, false, 16), (7, 3, 960, false, 19), (8, 3, 960, false, 22), (9, 1, 4, false, 25), (10, 1, 4, true, 28), (11, 1, 4, false, 32), (12, 2, 80, false, 35), (13, 1, 4, false, 38), (14, 3, 160, false, 41), (15, 2, 12, false, 44), (17, 2, 40, false, 47), (18, 2, 40, false, 50), (19, 2, 40, false, 53), (20, 2, 40, false, 56), (21, 2, 40, false, 59), (22, 2, 40, false, 62), (23, 3, 160, true, 65)]
theorem xsX6_ok : zits cX6_init RX6 6 TX6 30 4 xsX6 :=
    ⟨⟨(by decide +kernel : decode cX6_init 4 = .ok (.aload_n 0, 1)), Or.inr (Or.inl ⟨_, (by decide +kernel : decode cX6_init 5 = .ok (.bipush 48, 2)), rfl, by decide⟩), (by decide +kernel : decode cX6_init 7 = .ok (.newarray .int, 2)), (by decide +kernel : decode cX6_init 9 = .ok (.putfield 7, 3)), zf_RX6_7, by decide, rfl, rfl, by decide +kernel, by decide⟩,
    ⟨⟨(by decide +kernel : decode cX6_init 12 = .ok (.aload_n 0, 1)), Or.inl ⟨_, (by decide +kernel : decode cX6_init 13 = .ok (.iconst 3, 1)), rfl, by decide⟩, (by decide +kernel : decode cX6_init 14 = .ok (.newarray .int, 2)), (by decide +kernel : decode cX6_init 16 = .ok (.putfield 13, 3)), zf_RX6_13, by decide, rfl, rfl, by decide +kernel, by decide⟩,
    ⟨⟨(by decide +kernel : decode cX6_init 19 = .ok (.aload_n 0, 1)), Or.inr (Or.inl ⟨_, (by decide +kernel : decode cX6_init 20 = .ok (.bipush 48, 2)), rfl, by decide⟩), (by decide +kernel : decode cX6_init 22 = .ok (.newarray .int, 2)), (by decide +kernel : decode cX6_init 24 = .ok (.putfield 16, 3)), zf_RX6_16, by decide, rfl, rfl, by decide +kernel, by decide⟩,
    ⟨⟨(by decide +kernel : decode cX6_init 27 = .ok (.aload_n 0, 1)), Or.inr (Or.inr ⟨_, (by decide +kernel : decode cX6_init 28 = .ok (.sipush 960, 3)), rfl, by decide⟩), (by decide +kernel : decode cX6_init 31 = .ok (.newarray .int, 2)), (by decide +kernel : decode cX6_init 33 = .ok (.putfield 19, 3)), zf_RX6_19, by decide, rfl, rfl, by decide +kernel, by decide⟩,
    ⟨⟨(by decide +kernel : decode cX6_init 36 = .ok (.aload_n 0, 1)), Or.inr (Or.inr ⟨_, (by decide +kernel : decode cX6_init 37 = .ok (.sipush 960, 3)), rfl, by decide⟩), (by decide +kernel : decode cX6_init 40 = .ok (.newarray .int, 2)), (by decide +kernel : decode cX6_init 42 = .ok (.putfield 22, 3)), zf_RX6_22, by decide, rfl, rfl, by decide +kernel, by decide⟩,
    ⟨⟨(by decide +kernel : decode cX6_init 45 = .ok (.aload_n 0, 1)), Or.inl ⟨_, (by decide +kernel : decode cX6_init 46 = .ok (.iconst 4, 1)), rfl, by decide⟩, (by decide +kernel : decode cX6_init 47 = .ok (.newarray .int, 2)), (by decide +kernel : decode cX6_init 49 = .ok (.putfield 25, 3)), zf_RX6_25, by decide, rfl, rfl, by decide +kernel, by decide⟩,
    ⟨⟨(by decide +kernel : decode cX6_init 52 = .ok (.aload_n 0, 1)), Or.inl ⟨_, (by decide +kernel : decode cX6_init 53 = .ok (.iconst 4, 1)), rfl, by decide⟩, (by decide +kernel : decode cX6_init 54 = .ok (.newarray .boolean, 2)), (by decide +kernel : decode cX6_init 56 = .ok (.putfield 28, 3)), zf_RX6_28, by decide, rfl, rfl, by decide +kernel, by decide⟩,
    ⟨⟨(by decide +kernel : decode cX6_init 59 = .ok (.aload_n 0, 1)), Or.inl ⟨_, (by decide +kernel : decode cX6_init 60 = .ok (.iconst 4, 1)), rfl, by decide⟩, (by decide +kernel : decode cX6_init 61 = .ok (.newarray .int, 2)), (by decide +kernel : decode cX6_init 63 = .ok (.putfield 32, 3)), zf_RX6_32, by decide, rfl, rfl, by decide +kernel, by decide⟩,
    ⟨⟨(by decide +kernel : decode cX6_init 66 = .ok (.aload_n 0, 1)), Or.inr (Or.inl ⟨_, (by decide +kernel : decode cX6_init 67 = .ok (.bipush 80, 2)), rfl, by decide⟩), (by decide +kernel : decode cX6_init 69 = .ok (.newarray .int, 2)), (by decide +kernel : decode cX6_init 71 = .ok (.putfield 35, 3)), zf_RX6_35, by decide, rfl, rfl, by decide +kernel, by decide⟩,
    ⟨⟨(by decide +kernel : decode cX6_init 74 = .ok (.aload_n 0, 1)), Or.inl ⟨_, (by decide +kernel : decode cX6_init 75 = .ok (.iconst 4, 1)), rfl, by decide⟩, (by decide +kernel : decode cX6_init 76 = .ok (.newarray .int, 2)), (by decide +kernel : decode cX6_init 78 = .ok (.putfield 38, 3)), zf_RX6_38, by decide, rfl, rfl, by decide +kernel, by decide⟩,
    ⟨⟨(by decide +kernel : decode cX6_init 81 = .ok (.aload_n 0, 1)), Or.inr (Or.inr ⟨_, (by decide +kernel : decode cX6_init 82 = .ok (.sipush 160, 3)), rfl, by decide⟩), (by decide +kernel : decode cX6_init 85 = .ok (.newarray .int, 2)), (by decide +kernel : decode cX6_init 87 = .ok (.putfield 41, 3)), zf_RX6_41, by decide, rfl, rfl, by decide +kernel, by decide⟩,
    ⟨⟨(by decide +kernel : decode cX6_init 90 = .ok (.aload_n 0, 1)), Or.inr (Or.inl ⟨_, (by decide +kernel : decode cX6_init 91 = .ok (.bipush 12, 2)), rfl, by decide⟩), (by decide +kernel : decode cX6_init 93 = .ok (.newarray .int, 2)), (by decide +kernel : decode cX6_init 95 = .ok (.putfield 44, 3)), zf_RX6_44, by decide, rfl, rfl, by decide +kernel, by decide⟩,
    ⟨⟨(by decide +kernel : decode cX6_init 98 = .ok (.aload_n 0, 1)), Or.inr (Or.inl ⟨_, (by decide +kernel : decode cX6_init 99 = .ok (.bipush 40, 2)), rfl, by decide⟩), (by decide +kernel : decode cX6_init 101 = .ok (.newarray .int, 2)), (by decide +kernel : decode cX6_init 103 = .ok (.putfield 47, 3)), zf_RX6_47, by decide, rfl, rfl, by decide +kernel, by decide⟩,
    ⟨⟨(by decide +kernel : decode cX6_init 106 = .ok (.aload_n 0, 1)), Or.inr (Or.inl ⟨_, (by decide +kernel : decode cX6_init 107 = .ok (.bipush 40, 2)), rfl, by decide⟩), (by decide +kernel : decode cX6_init 109 = .ok (.newarray .int, 2)), (by decide +kernel : decode cX6_init 111 = .ok (.putfield 50, 3)), zf_RX6_50, by decide, rfl, rfl, by decide +kernel, by decide⟩,
    ⟨⟨(by decide +kernel : decode cX6_init 114 = .ok (.aload_n 0, 1)), Or.inr (Or.inl ⟨_, (by decide +kernel : decode cX6_init 115 = .ok (.bipush 40, 2)), rfl, by decide⟩), (by decide +kernel : decode cX6_init 117 = .ok (.newarray .int, 2)), (by decide +kernel : decode cX6_init 119 = .ok (.putfield 53, 3)), zf_RX6_53, by decide, rfl, rfl, by decide +kernel, by decide⟩,
    ⟨⟨(by decide +kernel : decode cX6_init 122 = .ok (.aload_n 0, 1)), Or.inr (Or.inl ⟨_, (by decide +kernel : decode cX6_init 123 = .ok (.bipush 40, 2)), rfl, by decide⟩), (by decide +kernel : decode cX6_init 125 = .ok (.newarray .int, 2)), (by decide +kernel : decode cX6_init 127 = .ok (.putfield 56, 3)), zf_RX6_56, by decide, rfl, rfl, by decide +kernel, by decide⟩,
    ⟨⟨(by decide +kernel : decode cX6_init 130 = .ok (.aload_n 0, 1)), Or.inr (Or.inl ⟨_, (by decide +kernel : decode cX6_init 131 = .ok (.bipush 40, 2)), rfl, by decide⟩), (by decide +kernel : decode cX6_init 133 = .ok (.newarray .int, 2)), (by decide +kernel : decode cX6_init 135 = .ok (.putfield 59, 3)), zf_RX6_59, by decide, rfl, rfl, by decide +kernel, by decide⟩,
    ⟨⟨(by decide +kernel : decode cX6_init 138 = .ok (.aload_n 0, 1)), Or.inr (Or.inl ⟨_, (by decide +kernel : decode cX6_init 139 = .ok (.bipush 40, 2)), rfl, by decide⟩), (by decide +kernel : decode cX6_init 141 = .ok (.newarray .int, 2)), (by decide +kernel : decode cX6_init 143 = .ok (.putfield 62, 3)), zf_RX6_62, by decide, rfl, rfl, by decide +kernel, by decide⟩,
    ⟨⟨(by decide +kernel : decode cX6_init 146 = .ok (.aload_n 0, 1)), Or.inr (Or.inr ⟨_, (by decide +kernel : decode cX6_init 147 = .ok (.sipush 160, 3)), rfl, by decide⟩), (by decide +kernel : decode cX6_init 150 = .ok (.newarray .boolean, 2)), (by decide +kernel : decode cX6_init 152 = .ok (.putfield 65, 3)), zf_RX6_65, by decide, rfl, rfl, by decide +kernel, by decide⟩,
    trivial⟩⟩⟩⟩⟩⟩⟩⟩⟩⟩⟩⟩⟩⟩⟩⟩⟩⟩⟩
theorem zfl19 {us : List Nat} (h : us.length = 19) : ∃ f : Nat → Nat, us = [f 0, f 1, f 2, f 3, f 4, f 5, f 6, f 7, f 8, f 9, f 10, f 11, f 12, f 13, f 14, f 15, f 16, f 17, f 18] := by
  obtain ⟨f, rfl⟩ := zfl h
  exact ⟨f, rfl⟩
def zqM (q : Nat → Nat) (h b : Nat) (f : Nat → Nat) : Nat → Nat := fun k => if k < 28 then q k else if k = 28 then h else if k = 48 then b else f (k - 29)
def zσM (σ : zV) : zV := fun k => if k < 28 then σ k else fun _ => 0
theorem zσM_o (σ : zV) : zMo σ (zσM σ) := fun k hk => by simp [zσM, hk]
set_option maxHeartbeats 2000000 in
theorem zqM_W (cI cZ : ClassId) (q : Nat → Nat) (σ : zV) (h b : Nat) (f : Nat → Nat) : zob (zW q cI cZ (zUn false) σ) h 6 (zset xsX6 [f 0, f 1, f 2, f 3, f 4, f 5, f 6, f 7, f 8, f 9, f 10, f 11, f 12, f 13, f 14, f 15, f 16, f 17, f 18] fsX6) (zars cI cZ xsX6 [f 0, f 1, f 2, f 3, f 4, f 5, f 6, f 7, f 8, f 9, f 10, f 11, f 12, f 13, f 14, f 15, f 16, f 17, f 18]) = zW (zqM q h b f) cI cZ (zUn true) (zσM σ) := by
  simp [zob, zset, zars, zCb, xsX6, fsX6, zW, zE, zUn, zUX, zUM, zqM, zσM, List.mapIdx_cons]
def zMp (D : va_G) (cI cZ : ClassId) (q : Nat → Nat) (σ : zV) (h sz : Nat) : Array Value → State → Prop := va_Pc [.ref h] (fun T => T.heap.size = sz ∧ va_P D vwCl (zob (zW q cI cZ (zUn false) σ) h 6 fsX6 []) T.heap ∧ va_K D vwCl (zTy cI cZ) T ∧ va_D (fun _ => True) (zob (zW q cI cZ (zUn false) σ) h 6 fsX6 []) ∧ zNw T)
def zMq (D : va_G) (cI cZ : ClassId) (q : Nat → Nat) (σ : zV) (h b : Nat) (A : Nat → Prop) : Array Value → State → Outcome → State → Prop := va_Qv (fun u : (Nat → Nat) × zV => u.1 0 = q 0 ∧ u.1 28 = h ∧ u.1 48 = b ∧ RM (sNew 2) u.2 ∧ zMo σ u.2) (fun u t => va_P D vwCl (zW u.1 cI cZ (zUn true) u.2) t.heap ∧ va_D A (zW u.1 cI cZ (zUn true) u.2)) A
theorem zMp_blind {D : va_G} {cI cZ : ClassId} {q : Nat → Nat} {σ : zV} {h sz : Nat} : FrameBlind (zMp D cI cZ q σ h sz) := by
  intro a V g mk q
  obtain ⟨h1, h2, h3, h4, h5, h6⟩ := q
  exact ⟨h1, h2, h3, va_K.moved (u := V) (U := V.calling g mk a) (Vm.Alike.refl V.vm) h4, h5, fun w hw hn => va_Nw.same (zisN_on hn) (u := V) (U := V.calling g mk a) rfl (h6 w hw hn)⟩
theorem ctorM_tail {Q : zQ} {σ : zV} (hQ : ∀ σ', RM (sNew 2) σ' → zMo σ σ' → Q none σ') : zEv (zUn true) (zCall (zUn true) 1) RX6 cX6_init 1 none none Q 155 [.ref 28] [] σ := by
  have hm := zCall_mono (zUn true) 1
  rw [q_aload_n (x := 28) hm (by decide +kernel : decode cX6_init 155 = .ok (.aload_n 0, 1)) rfl, q_iconst (v := nI 2) hm (by decide +kernel : decode cX6_init 156 = .ok (.iconst 2, 1)) (by decide), q_inv (As := [.int (nI 2)]) (r := []) (st' := [.int (nI 2), .ref 28]) hm (by decide +kernel : decode cX6_init 157 = .ok (.invokevirtual 68, 3)) zm_RX6_68 (by omega) u_28 zn_6 zcat_n rfl]
  refine M_again (d := 0) (fun σ' h1 h2 => ?_)
  simp only [z_toN, List.nil_append]
  rw [q_vret hm (by decide +kernel : decode cX6_init 160 = .ok (.return_, 1)) rfl]
  exact hQ σ' h1 h2
set_option maxHeartbeats 2000000 in
theorem ctorM (l : Launch) (D : va_G) (cI cZ : ClassId) (q : Nat → Nat) (σ : zV) (h b sz : Nat) : Met l yX6_init (.code yX6_init cX6_init 1 none :: zTs) { frames := 2, cells := 19, slots := 2687, locals := 72 } (zMp D cI cZ q σ h sz) (zMq D cI cZ q σ h b (va_A (zob (zW q cI cZ (zUn false) σ) h 6 fsX6 []) sz)) 19 2687 (va_A (zob (zW q cI cZ (zUn false) σ) h 6 fsX6 []) sz) := by
  refine Met.ofW (cc := cX6_init) (maxL := 1) (ret := none) (by decide +kernel) rfl ?_
  intro p e s m args below meth c s₁ B hml hv
  obtain ⟨rfl, hsz, hP, hK, hD0, hN⟩ := hv
  have hts := atoms_spec (ws := .code yX6_init cX6_init 1 none :: zTs) B.pre
  have hts2 : ∀ w ∈ zTs, w.before [Value.ref h].toArray s = true := fun w hw => hts w (List.mem_cons_of_mem _ hw)
  have hown : s.vm.findClass RX6 = some m.cls := findClass_of_methodNamed B.named
  have hin : meth.name = "<init>" := (name_of_methodNamed B.named B.method).1
  subst hsz
  have hD := hD0.self (sz := s.heap.size)
  generalize hwp : zW q cI cZ (zUn false) σ = wp at hP hD
  generalize hAe : va_A (zob wp h 6 fsX6 []) s.heap.size = A at hD
  have hA : ∀ q : Nat, s.heap.size ≤ q → A q := fun q h => by rw [← hAe]; exact Or.inr h
  have hl := lv_entry [.ref h] (n := 1) (Nat.le_of_ble_eq_true rfl)
  rw [lg_entry_eq]
  generalize (lg_sl [Value.ref h] ++ List.replicate (1 - (lg_sl [Value.ref h]).length) Slot.unset).toArray = ls at hl ⊢
  have hl : lv_has ls 1 [(0, .ref h)] := hl
  have F : ziFix p s m [Value.ref h].toArray meth c cX6_init 1 RX6 D cI cZ A := ⟨B.exec, B.bytes, hml, hown, hts2, hK, hA, hin⟩
  refine lv_aload_n B.exec B.bytes (by decide +kernel : decode cX6_init 0 = .ok (.aload_n 0, 1)) rfl (lv_at hl 0 rfl) ?_
  refine W.objInit B.exec B.bytes hown (hts2 _ (zTs_of (i := 602) (w := .methodLink RX6 1 objectInit) (by decide +kernel))) (hts2 _ zTs_ob.1) (hts2 _ zTs_ob.2) rfl (by rw [hml]; exact hl.1) rfl (by decide +kernel : decode cX6_init 1 = .ok (.invokespecial 1, 3)) (Nat.le_of_ble_eq_true rfl) (Nat.le_of_ble_eq_true rfl) ?_
  refine W.eq (g2 := F0 m 4 ls []) rfl ?_
  refine zi_arrs (T := TX6) (C := RX6) (N := 30) F rfl hl xsX6 4 fsX6 [] s.heap [] 0 0 xsX6_ok rfl (Nat.le_of_ble_eq_true rfl) (Nat.le_of_ble_eq_true rfl) hP hD va_S.rf (fun us H1 locs1 hu hP1 hD1 hS1 => ?_)
  refine W.widen (k := 19) (n := 2687) (Nat.le_of_ble_eq_true rfl) (Nat.le_of_ble_eq_true rfl) ?_
  refine W.eq (g2 := F0 m 155 ls []) rfl ?_
  obtain ⟨f, rfl⟩ := zfl19 (hu : us.length = 19)
  rw [List.nil_append, ← hwp, zqM_W cI cZ q σ h b f] at hP1 hD1
  have hq0 : zqM q h b f 0 = q 0 := rfl
  have hq28 : zqM q h b f 28 = h := rfl
  have hq48 : zqM q h b f 48 = b := rfl
  generalize zqM q h b f = q2 at hP1 hD1 hq0 hq28 hq48
  have hlocks := B.notSynchronized
  let Q : zQ := fun v σ' => v = none ∧ RM (sNew 2) σ' ∧ zMo (zσM σ) σ'
  have F2 : zFix p l { frames := 2, cells := 19, slots := 2687, locals := 72 } s m [Value.ref h].toArray c 19 2687 cX6_init 1 RX6 D q2 cI cZ A (zUn true) none (zCall (zUn true) 1) := by
    refine ⟨B.exec, B.bytes, hml, hown, hts2, hN, hK, hA, Nat.le_refl _, Nat.le_refl _, Nat.le_of_ble_eq_true rfl, Nat.le_of_ble_eq_true rfl, fun y as σ Q hc => ?_, fun k L xs h => by cases h⟩
    obtain ⟨cc', nL', ret', g1, g2, g3⟩ := zmet l D q2 cI cZ (zUn true) 1 y as σ Q hc
    exact ⟨cc', nL', ret', zRm 1, g1, Nat.le_refl _, by show 8 + (nL' + 11) + 36 * 1 ≤ 72; omega, rfl, rfl, g3⟩
  have E2 : zEnd p l e { frames := 2, cells := 19, slots := 2687, locals := 72 } s m [Value.ref h].toArray below meth c 19 2687 (MQ below (zMq D cI cZ q σ h b A) [Value.ref h].toArray s 19 2687 A) cX6_init none D q2 cI cZ A (zUn true) Q := by
    intro H locs pc lsA σ' hP' hD' hS'
    refine ⟨fun v ty _ h1 => (by cases h1), fun v _ h1 => (by cases h1), fun hd h1 h3 => ?_⟩
    exact W.vret B.exec B.bytes (by rw [B.returns]) (fun t ht hW => ⟨⟨(q2, σ'), rfl, ⟨hq0, hq28, hq48, h3.2.1, fun k hk => (h3.2.2 k hk).trans (zσM_o σ k hk)⟩, by rw [ht]; exact hP', hD'⟩, hS'.F ht⟩) hS'.2.2 hd
  refine zsound F2 E2 155 [.ref 28] [] (zσM σ) (ctorM_tail (fun σ' h1 h2 => ⟨rfl, h1, h2⟩)) ls H1 locs1 ?_ hP1 hD1 hS1
  show lv_has ls 1 [(0, .ref (q2 28))]
  rw [hq28]
  exact hl
