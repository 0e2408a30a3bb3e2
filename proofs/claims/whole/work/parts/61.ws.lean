/-! THE CLAIM OUT OF ONE WALK OF THE LAW'S BODY. Your part is whole_start (and what it stands on); all else here is the same for every law, but numbers. -/
def R_law : String := "ShootDownLaw"
def lw_P (b : Addr) (xs : List Int32) (args : Array Value) (s : State) : Prop := args = #[.ref b] ∧ s.IntsAt b xs ∧ xs.length ≤ 3072 ∧ (Jvm.Cond.and given_1 narrow_1).before args s = true
def lw_Q (_ : Array Value) (s : State) (o : Outcome) (t : State) : Prop := o = .returned (some (.int 1)) ∧ Framed s o t [] 48 5262
def lw_Z (below : List Frame) (a : Array Value) (s : State) : State → Prop := fun t => ∃ o, t.status = .running ∧ Ended t below o ∧ lw_Q a s o t
/-- the law's own end, with 1 on the stack, nothing written that was there before, its room as the claim has it -/
theorem lw_ret {p : Program} {l : Launch} {e : Env} {s : State} {m : MethodId} {below : List Frame} {meth : Method} {c : Code} {b : Nat} (hx : p.tables.exec = Jvm.exec) (hb : c.code = code) (hr : meth.sig.returnType = ret) (hlocks : meth.locks = false) {pc : Nat} {H : Heap} {ls : Array Slot} (hdg : decode code pc = .ok (.ireturn, 1)) : W p l e room_1 s m #[Value.ref b] below meth c H [] 48 5262 (lw_Z below #[Value.ref b] s) (F0 m pc ls [.int 1]) := by
  intro T hT X
  obtain ⟨fs, hret, hrun, hended, hW, hframe⟩ := X.leave (v := some (.int 1)) (hlocks := hlocks) (fun h => by rw [hr] at h; cases h)
  have hmeth' : T.vm.method? m = some meth := X.method'
  refine ⟨T.setFrames fs, ?_, .returned (some (.int 1)), hrun, hended, rfl, ⟨_, rfl⟩, hW, hframe⟩
  jvm_step X.here [X.here.top, hx, hb, hdg, hmeth', hr, ret, narrow_b1]
  (try refine ⟨rfl, ?_⟩); (try refine ⟨rfl, ?_⟩)
  first | (intro acts; rw [hret _ acts rfl rfl rfl]) | rw [hret _ _ rfl rfl rfl]
  exact Steps.refl _
/-- what holds at the law's entry: the machine, the code, the tables' words (any of lw_tbl by 'hts w (by decide +kernel)'), the script of L ints xs at the cell b, what the Statement gives of the start (any of its parts by flat_of_before) -/
def lw_At (p : Program) (s : State) (m : MethodId) (meth : Method) (c : Code) (b L : Nat) (xs : Nat → Int32) : Prop :=
  p.tables.exec = Jvm.exec ∧ c.code = code ∧ meth.sig.returnType = ret ∧ c.maxLocals = 4 ∧ s.vm.findClass R_law = some m.cls ∧ (∀ w ∈ lw_tbl, w.before #[Value.ref b] s = true) ∧ va_X b L xs s s.heap ∧ b < s.heap.size ∧ meth.locks = false ∧ (Jvm.Cond.and given_1 narrow_1).before #[Value.ref b] s = true
-- ===== YOUR PART BEGINS =====
set_option maxHeartbeats 4000000 in
/-- YOUR PART: from the entry, for every script of at most 3072 ints, the law comes to its end with true ('hflags': the launch's flags, for a law that throws: no stack traces) -/
theorem whole_start {p : Program} {e : Env} {s : State} {m : MethodId} {below : List Frame} {meth : Method} {c : Code} (l : Launch) (hflags : l.flags = flags0) {b L : Nat} {xs : Nat → Int32} (hL : L ≤ 3072) (C0 : lw_At p s m meth c b L xs) : W p l e room_1 s m #[Value.ref b] below meth c s.heap [] 0 0 (lw_Z below #[Value.ref b] s) (entryFrame m ([Value.ref b] : List Value).toArray 4) := by
  obtain ⟨hx, hb, hr, hml, hown0, htsT, hX, hbl, hlocks, hgv⟩ := id C0
  have hown : s.vm.findClass RL = some m.cls := hown0
  have hts : ∀ w ∈ zTs, w.before #[Value.ref b] s = true := fun w hw => htsT w (List.mem_filter.mp hw).1
  have hN : zNw s := fun w hw hn => va_Nw.of (zisN_on hn) (htsT w hw)
  have hA : ∀ q : Nat, s.heap.size ≤ q → (fun q : Nat => s.heap.size ≤ q) q := fun _ h => h
  have hbA : ¬ (fun q : Nat => s.heap.size ≤ q) b := Nat.not_le.mpr hbl
  obtain ⟨c0, iS0, hKn0⟩ := u_known (C := RX0) (T := TX0) (N := 4) (n := 4) hts (zinX 0 _ rfl) (hts _ (zTs_of (i := 108) (w := .instantiable RX0 4) (by decide +kernel)))
  obtain ⟨c1, iS1, hKn1⟩ := u_known (C := RX1) (T := TX1) (N := 5) (n := 5) hts (zinX 1 _ rfl) (hts _ (zTs_of (i := 131) (w := .instantiable RX1 5) (by decide +kernel)))
  obtain ⟨c2, iS2, hKn2⟩ := u_known (C := RX2) (T := TX2) (N := 2) (n := 2) hts (zinX 2 _ rfl) (hts _ (zTs_of (i := 154) (w := .instantiable RX2 2) (by decide +kernel)))
  obtain ⟨c3, iS3, hKn3⟩ := u_known (C := RX3) (T := TX3) (N := 8) (n := 8) hts (zinX 3 _ rfl) (hts _ (zTs_of (i := 168) (w := .instantiable RX3 8) (by decide +kernel)))
  obtain ⟨c4, iS4, hKn4⟩ := u_known (C := RX4) (T := TX4) (N := 4) (n := 4) hts (zinX 4 _ rfl) (hts _ (zTs_of (i := 87) (w := .instantiable RX4 4) (by decide +kernel)))
  obtain ⟨c5, iS5, hKn5⟩ := u_known (C := RX5) (T := TX5) (N := 15) (n := 15) hts (zinX 5 _ rfl) (hts _ (zTs_of (i := 79) (w := .instantiable RX5 15) (by decide +kernel)))
  obtain ⟨c6, iS6, hKn6⟩ := u_known (C := RX6) (T := TX6) (N := 30) (n := 30) hts (zinX 6 _ rfl) (hts _ (zTs_of (i := 598) (w := .instantiable RX6 30) (by decide +kernel)))
  obtain ⟨dC, dI, hKc⟩ : ∃ (dC : Nat → ClassId) (dI : Nat → Nat → Nat), ∀ (k : Nat) (q : vw_C), vwCl[k]? = some q → u_Kn s q.1 q.2.1 q.2.2 (dC k) (dI k) := by
    refine ⟨fun k => ([c0, c1, c2, c3, c4, c5, c6] : List ClassId).getD k c0, fun k => ([iS0, iS1, iS2, iS3, iS4, iS5, iS6] : List (Nat → Nat)).getD k iS0, ?_⟩
    intro k x h
    match k, h with
    | 0, h => cases h; exact hKn0
    | 1, h => cases h; exact hKn1
    | 2, h => cases h; exact hKn2
    | 3, h => cases h; exact hKn3
    | 4, h => cases h; exact hKn4
    | 5, h => cases h; exact hKn5
    | 6, h => cases h; exact hKn6
    | k + 7, h => simp [vwCl] at h
  obtain ⟨cI, kI, compI, i1, i2, i3⟩ := Cond.arrayClass_spec (hts _ (show .arrayClass .int ∈ zTs from zTs_arr false))
  obtain ⟨cZ, kZ, compZ, j1, j2, j3⟩ := Cond.arrayClass_spec (hts _ (show .arrayClass .boolean ∈ zTs from zTs_arr true))
  have hK : va_K (dC, dI) vwCl (zTy cI cZ) s := by
    refine ⟨hKc, fun k x h => ?_⟩
    match k, h with
    | 0, h => cases h; exact ⟨fun n z => ⟨fun k h => (by cases h), kI, i2, compI, i3⟩, i1⟩
    | 1, h => cases h; exact ⟨fun n z => ⟨fun k h => (by cases h), kZ, j2, compZ, j3⟩, j1⟩
    | k + 2, h => simp at h
  have hP0 : va_P (dC, dI) vwCl [] s.heap := fun k q h => by simp at h
  have hD0 : va_D (fun q : Nat => s.heap.size ≤ q) [] := ⟨fun i j p q h => by simp at h, fun k q h => by simp at h⟩
  have hl := lv_entry ([.ref b]) (n := 4) (Nat.le_of_ble_eq_true rfl)
  rw [lg_entry_eq]
  generalize (lg_sl ([.ref b]) ++ List.replicate (4 - (lg_sl ([.ref b])).length) Slot.unset).toArray = ls at hl ⊢
  have hl : lv_has ls 4 [(0, .ref b)] := hl
  refine va_new (own := RL) (ci := 5) (fs := fsX5) (C := RX5) (T := TX5) (N := 15) hx hb hts (zinX 5 _ rfl) tyX5 tyX5_ok hown (hts _ (zTs_of (i := 78) (by decide +kernel))) (hts _ (zTs_of (i := 79) (by decide +kernel))) (hts _ (zTs_of (i := 67) (by decide +kernel))) hK hP0 hD0 (va_S.rf (A := fun q : Nat => s.heap.size ≤ q)) hA rfl (by decide) (Nat.le_of_ble_eq_true rfl) (Nat.le_of_ble_eq_true rfl) (by decide +kernel : decode cL_law 0 = .ok (.new 7, 3)) (fun h0 H hP hD hS => ?_)
  have hP : va_P (dC, dI) vwCl (zob [] h0 5 fsX5 []) H := hP
  have hD : va_D (fun q : Nat => s.heap.size ≤ q) (zob [] h0 5 fsX5 []) := hD
  refine W.widen (k := 1) (n := 15) (Nat.le_of_ble_eq_true rfl) (Nat.le_of_ble_eq_true rfl) ?_
  refine lv_dup hx hb (by decide +kernel : decode cL_law 3 = .ok (.dup, 1)) rfl ?_
  have hFc : ∀ q, va_A (zob [] h0 5 fsX5 []) H.size q → s.heap.size ≤ q := by
    rintro q (⟨k, e, h⟩ | h)
    · exact hD.2 k (q, e) h
    · exact Nat.le_trans hS.1 h
  refine va_callv (va_runI (As := []) (rest := [.ref h0]) ⟨hx, hb, hml, hown, hts⟩ (ctorX l (dC, dI) cI cZ h0 H.size) (cwI 0 hts (zgood (zTs_of (i := 82) (by decide +kernel))) rfl rfl rfl (hts _ (zTs_of (i := 67) (by decide +kernel))) (hts _ (zTs_of (i := 80) (by decide +kernel))) (hts _ (zTs_of (i := 81) (by decide +kernel))) rfl ⟨by decide, by decide, by decide +kernel⟩ ⟨Nat.le_of_ble_eq_true rfl, Nat.le_of_ble_eq_true rfl⟩) ⟨zXp_blind, fun U hU hW => ⟨rfl, by rw [hU], by rw [hU]; exact hP, va_K.moved hW.alike hK, hD.weaken (fun _ _ _ _ => trivial), zNw_warm hN hW⟩⟩ rfl rfl hl.1 rfl (lv_room (Nat.le_of_ble_eq_true rfl)) (by decide +kernel : decode cL_law 4 = .ok (.invokespecial 9, 3)) ⟨Nat.le_of_ble_eq_true rfl, Nat.le_of_ble_eq_true rfl⟩) hS (fun q _ h => hFc q h) hFc (fun u t H1 locs1 ht hvm hw hB hz1 hk1 hS1 => ?_)
  obtain ⟨q, σ⟩ := u
  obtain ⟨hq0, hRX⟩ := hw
  obtain ⟨hP1, hD1⟩ := hB
  rw [ht] at hP1
  dsimp only at hq0 hRX hP1 hD1
  have hD1 : va_D (fun q : Nat => s.heap.size ≤ q) (zW q cI cZ (zUn false) σ) := hD1.weaken (fun _ _ _ h => hFc _ h)
  refine W.widen (k := 28) (n := 2545) (Nat.le_of_ble_eq_true rfl) (Nat.le_of_ble_eq_true rfl) ?_
  refine lv_astore_n (lv' := [(1, .ref h0), (0, .ref b)]) hx hb (by decide +kernel : decode cL_law 7 = .ok (.astore_n 1, 1)) rfl hl (by decide) rfl (fun ls hl => ?_)
  refine va_new (own := RL) (ci := 6) (fs := fsX6) (C := RX6) (T := TX6) (N := 30) hx hb hts (zinX 6 _ rfl) tyX6 tyX6_ok hown (hts _ (zTs_of (i := 597) (by decide +kernel))) (hts _ (zTs_of (i := 598) (by decide +kernel))) (hts _ (zTs_of (i := 74) (by decide +kernel))) hK hP1 hD1 hS1 hA rfl (by decide) (Nat.le_of_ble_eq_true rfl) (Nat.le_of_ble_eq_true rfl) (by decide +kernel : decode cL_law 8 = .ok (.new 10, 3)) (fun h1 H2 hP2 hD2 hS2 => ?_)
  have hP2 : va_P (dC, dI) vwCl (zob (zW q cI cZ (zUn false) σ) h1 6 fsX6 []) H2 := hP2
  have hD2 : va_D (fun q : Nat => s.heap.size ≤ q) (zob (zW q cI cZ (zUn false) σ) h1 6 fsX6 []) := hD2
  refine W.widen (k := 29) (n := 2575) (Nat.le_of_ble_eq_true rfl) (Nat.le_of_ble_eq_true rfl) ?_
  refine lv_dup hx hb (by decide +kernel : decode cL_law 11 = .ok (.dup, 1)) rfl ?_
  have hFm : ∀ x, va_A (zob (zW q cI cZ (zUn false) σ) h1 6 fsX6 []) H2.size x → s.heap.size ≤ x := by
    rintro x (⟨k, e, h⟩ | h)
    · exact hD2.2 k (x, e) h
    · exact Nat.le_trans hS2.1 h
  refine va_callv (va_runI (As := []) (rest := [.ref h1]) ⟨hx, hb, hml, hown, hts⟩ (ctorM l (dC, dI) cI cZ q σ h1 b H2.size) (cwI 0 hts (zgood (zTs_of (i := 601) (by decide +kernel))) rfl rfl rfl (hts _ (zTs_of (i := 74) (by decide +kernel))) (hts _ (zTs_of (i := 599) (by decide +kernel))) (hts _ (zTs_of (i := 600) (by decide +kernel))) rfl ⟨by decide, by decide, by decide +kernel⟩ ⟨Nat.le_of_ble_eq_true rfl, Nat.le_of_ble_eq_true rfl⟩) ⟨zMp_blind, fun U hU hW => ⟨rfl, by rw [hU], by rw [hU]; exact hP2, va_K.moved hW.alike hK, hD2.weaken (fun _ _ _ _ => trivial), zNw_warm hN hW⟩⟩ rfl rfl hl.1 rfl (lv_room (Nat.le_of_ble_eq_true rfl)) (by decide +kernel : decode cL_law 12 = .ok (.invokespecial 12, 3)) ⟨Nat.le_of_ble_eq_true rfl, Nat.le_of_ble_eq_true rfl⟩) hS2 (fun q _ h => hFm q h) hFm (fun u t3 H3 locs3 ht3 hvm3 hw3 hB3 hz3 hk3 hS3 => ?_)
  obtain ⟨q2, σ2⟩ := u
  obtain ⟨g0, g28, g48, hRM, hMo⟩ := hw3
  obtain ⟨hP3, hD3⟩ := hB3
  rw [ht3] at hP3
  dsimp only at g0 g28 g48 hRM hMo hP3 hD3
  have hD3 : va_D (fun q : Nat => s.heap.size ≤ q) (zW q2 cI cZ (zUn true) σ2) := hD3.weaken (fun _ _ _ h => hFm _ h)
  have g0 : q2 0 = h0 := g0.trans hq0
  refine W.widen (k := 48) (n := 5262) (Nat.le_of_ble_eq_true rfl) (Nat.le_of_ble_eq_true rfl) ?_
  refine lv_astore_n (lv' := [(2, .ref h1), (1, .ref h0), (0, .ref b)]) hx hb (by decide +kernel : decode cL_law 15 = .ok (.astore_n 2, 1)) rfl hl (by decide) rfl (fun ls hl => ?_)
  refine lv_iconst (v := nI 0) hx hb (by decide +kernel : decode cL_law 16 = .ok (.iconst 0, 1)) (by decide) ?_
  refine lv_istore_n (lv' := [(3, .int (nI 0)), (2, .ref h1), (1, .ref h0), (0, .ref b)]) hx hb (by decide +kernel : decode cL_law 17 = .ok (.istore_n 3, 1)) rfl hl (by decide) rfl (fun ls hl => ?_)
  let Q : zQ := fun v _ => v = some (.int 1)
  have F2 : zFix p l room_1 s m #[Value.ref b] c 48 5262 cL_law 4 RL (dC, dI) q2 cI cZ (fun q : Nat => s.heap.size ≤ q) (zUn true) (some (48, L, xs)) (zCall (zUn true) 8) := by
    refine ⟨hx, hb, hml, hown, hts, hN, hK, hA, Nat.le_refl _, Nat.le_refl _, Nat.le_of_ble_eq_true rfl, Nat.le_of_ble_eq_true rfl, fun y as σ Q hc => ?_, fun k L' xs' h => ?_⟩
    · obtain ⟨cc', nL', ret', z1, z2, z3⟩ := zmet l (dC, dI) q2 cI cZ (zUn true) 8 y as σ Q hc
      exact ⟨cc', nL', ret', zRm 8, z1, Nat.le_refl _, by show 8 + (nL' + 11) + 36 * 8 ≤ 326; omega, rfl, rfl, z3⟩
    · cases h
      rw [g48]
      exact ⟨hX, hbl, hbA⟩
  have E2 : zEnd p l e room_1 s m #[Value.ref b] below meth c 48 5262 (lw_Z below #[Value.ref b] s) cL_law (some .boolean) (dC, dI) q2 cI cZ (fun q : Nat => s.heap.size ≤ q) (zUn true) Q := by
    intro H locs pc lsA σ' hP' hD' hS'
    refine ⟨fun v ty hd _ _ h3 => ?_, fun v _ h1 => (by cases h1), fun _ h1 => (by cases h1)⟩
    cases h3
    exact va_forget hS'.2.2 (lw_ret hx hb hr hlocks hd)
  refine zsound F2 E2 18 (lj 0) [] σ2 (law_loop (Q := Q) hL (fun _ => rfl) (L + 6) 0 σ2 (by omega) (by omega) ⟨sNew 2, RX_mo hRX hMo, hRM, zI_new (by omega) (by omega)⟩) ls H3 locs3 ?_ hP3 hD3 hS3
  show lv_has ls 4 [(0, .ref (q2 48)), (1, .ref (q2 0)), (2, .ref (q2 28)), (3, .int (nI 0))]
  rw [g48, g0, g28]
  exact lv_sub hl [3, 2, 1, 0] rfl
-- ===== YOUR PART ENDS =====
set_option maxHeartbeats 4000000 in
theorem lw_walk (l : Launch) (hflags : l.flags = flags0) (b : Addr) (xs : List Int32) : MetFree l x (headSpec (Jvm.Cond.code x code maxLocals ret :: tables_1) room_1) (lw_P b xs) (fun _ _ _ _ _ => True) lw_Q := by
  refine MetFree.of_bodyS (code := code) (maxLocals := maxLocals) (ret := ret) (by decide) ?_ ?_
  · intro args s m h hn
    obtain ⟨meth, c, h1, h2, h3, h4, h5, h6, -, -⟩ := Cond.code_spec hn (atoms_spec (ws := Jvm.Cond.code x code maxLocals ret :: tables_1) h _ List.mem_cons_self)
    exact ⟨meth, c, h1, h2, h3, h4, h5, h6⟩
  · intro p e s m args below meth c s₁ B hml0 hP _
    obtain ⟨rfl, hx, hbd, hgv⟩ := hP
    obtain ⟨scr, harrAt, hlist, hof, hsmall⟩ := hx
    obtain ⟨hcb, hkn, -, -⟩ := State.arrayAt?_spec harrAt
    have hown : s.vm.findClass R_law = some m.cls := findClass_of_methodNamed B.named
    have hts0 : ∀ c ∈ (Jvm.Cond.code x code maxLocals ret :: tables_1), c.before #[Value.ref b] s = true := atoms_spec (ws := Jvm.Cond.code x code maxLocals ret :: tables_1) B.pre
    have hts : ∀ w ∈ lw_tbl, w.before #[Value.ref b] s = true := k2_hts_sels lw_privs (fun w hw => hts0 w (List.mem_cons_of_mem _ hw)) lw_privs_ok
    have hml : c.maxLocals = 4 := B.maxLocals_eq (hts0 _ List.mem_cons_self)
    have X₀ : Stand p l e room_1 s m #[Value.ref b] below meth c s₁ [] 0 0 := Stand.of_body B
    have hh0 : s₁.heap = s.heap := by rw [B.state]; rfl
    have hsz : scr.slots.size = xs.length := by rw [← Array.length_toList, hlist, List.length_map]
    have hval : ∀ j : Nat, j < xs.length → scr.slots[j]? = some (.int (xs.getD j 0)) := fun j hj => by
      rw [← Array.getElem?_toList, hlist]
      simp [hj]
    have hbl : b < s.heap.size := (Array.getElem?_eq_some_iff.mp hcb).1
    have hX : va_X b xs.length (fun j => xs.getD j 0) s s.heap := ⟨scr, hcb, hof, hkn, hsz, hval⟩
    have K : W p l e room_1 s m #[Value.ref b] below meth c s₁.heap [] 0 0 (lw_Z below #[Value.ref b] s) (entryFrame m ([Value.ref b] : List Value).toArray 4) := by
      rw [hh0]
      exact whole_start l hflags hbd ⟨B.exec, B.bytes, B.returns, hml, hown, hts, hX, hbl, B.notSynchronized, hgv⟩
    obtain ⟨t, a1, o, b1, b2, b3⟩ := K s₁ rfl X₀
    exact ⟨t, o, a1, b1, b2, b3⟩
theorem lw_pre_spec {args : Array Value} {s : State} (h : (Jvm.Cond.and given_1 narrow_1).before args s = true) (hr : rest_1_c.before args s = true) : ∃ (b : Addr) (xs : List Int32), lw_P b xs args s := by
  have hs := flat_of_before _ h
  have hq := flat_of_before _ hr
  have hc : (Cond.count 1).before args s = true := hs _ (by decide +kernel)
  have harr : (Cond.arrayOf (.arg 0) .int).before args s = true := hs _ (by decide +kernel)
  have hle : (Cond.le (.length (.arg 0)) (.int 3072)).before args s = true := hs _ (by decide +kernel)
  have hlen : (Cond.isInt (.length (.arg 0))).before args s = true := hq _ (by decide +kernel)
  have hall : (Cond.all (.arg 0) (.isInt (.elem (.arg 0) (.index 0)))).before args s = true := hq _ (by decide +kernel)
  obtain ⟨b, xs, hb, hx⟩ := State.ints_of_pre rfl harr hlen hall
  have hsm : xs.length < 2 ^ 31 := hx.choose_spec.2.2.2
  have hev : (Term.length (.arg 0)).eval args s none [] s = some (.int xs.length.toInt32) := hx.length_eval hb
  have hv := Cond.le_ints hev (show (Term.int 3072).eval args s none [] s = some (.int 3072) from rfl)
  have hd : xs.length.toInt32 ≤ 3072 := by
    simpa [Cond.before, Cond.holds, hv] using hle
  have hN : xs.length ≤ 3072 := (Int32.ofNat_le_ofNat hsm (by decide)).mp (show Int32.ofNat xs.length ≤ Int32.ofNat 3072 from hd)
  exact ⟨b, xs, Cond.one_arg hc (show args[0]? = some (.ref b) from hb), hx, hN, h⟩
theorem lw_comes (l : Launch) (hflags : l.flags = flags0) : Comes l x (Jvm.Cond.code x code maxLocals ret :: tables_1) room_1 (fun tb e args s => Calls_1 tb e args s ∧ rest_1 tb e args s ∧ Pre_1 tb e args s)
    (fun _ _ args s o t => lw_Q args s o t) := by
  intro p e ha hc hk s m args below hf hfit hheap happ hpre
  obtain ⟨b, xs, hP⟩ := lw_pre_spec hpre.2.2 hpre.2.1
  obtain ⟨k, o, h1, h2, h3, hQ⟩ := lw_walk l hflags b xs p e ha hc hk s m args below hf ((Spec.applies_iff_loose hf).mp happ).1 hP trivial
  exact ⟨k, o, h1, h2, h3, hQ⟩
theorem lw_frame {s t : State} {o : Outcome} {args : Array Value} (h : Framed s o t [] 48 5262) :
    Framed s o t (fieldLocs frame_1_writes args s ++ arrayLocs frame_1_arrays args s ++ staticLocs frame_1_statics s) 48 5262 := h
theorem lw_limb (L : Cond) (hL : ∀ (args : Array Value) (s t : State), L.after args s (.returned (some (.int 1))) t = true) :
    ArmFor flags0 classFile x code maxLocals ret World_1 tables_1 room_1 Calls_1 rest_1 Pre_1
      (fun tb e a s o t => postC L tb e a s o t ∧ Framed s o t (fieldLocs frame_1_writes a s ++ arrayLocs frame_1_arrays a s ++ staticLocs frame_1_statics s) 48 5262) := by
  intro l hflags _ _ p e ha hc hk s m args below hf hfit hheap happ hpre
  obtain ⟨k, o, h1, h2, h3, rfl, hF⟩ := lw_comes l hflags p e ha hc hk s m args below hf hfit hheap happ hpre
  exact ⟨k, _, h1, h2, h3, hL args s _, lw_frame hF⟩
theorem i_vc : Claimed_1_1 ∧ Claimed_1_2 := ⟨lw_limb limb_1_1 (fun args s t => by simp [limb_1_1, Cond.after, Cond.holds, Cond.value]), lw_limb limb_1_2 (fun args s t => Cond.after_iff.mpr (by
  first | (rw [show limb_1_2 = Cond.eq .result (.int 1) from rfl, Cond.eq_ints (x := 1) (y := 1) rfl rfl]; simp; done) | (simp [limb_1_2, Cond.value, Term.eval]; done)))⟩
