/-! the law's loop -/
section ZL1
variable {U : zU} {call : zC} {own : String} {cc : ByteArray} {nL : Nat} {ret : Option FieldType} {scr : zS} {Q : zQ} {pc : Nat} {ls st r : List Value} {σ : zV}
theorem q_sld (hc : zMono call) {a L : Nat} {xs : Nat → Int32} {j : Int32} (hd : decode cc pc = .ok (.iaload, 1)) (hU : U[a]? = none) (hs : scr = some (a, L, xs)) : zEv U call own cc nL ret scr Q pc ls (.int j :: .ref a :: r) σ = (vp_in j L ∧ zEv U call own cc nL ret scr Q (pc + 1) ls (.int (xs j.toNatClampNeg) :: r) σ) := by
  rw [zEv_step hc hd]
  refine propext ⟨fun ⟨_, j', a', r', h1, h2⟩ => ?_, fun g => ⟨rfl, j, a, r, rfl, Or.inr ⟨L, xs, hU, hs, g⟩⟩⟩
  cases h1
  rcases h2 with ⟨n', h3, h4⟩ | ⟨L', xs', h3, h4, h5⟩
  · rw [hU] at h3; cases h3
  · rw [hs] at h4; cases h4; exact h5
theorem q_slen (hc : zMono call) {a L : Nat} {xs : Nat → Int32} (hd : decode cc pc = .ok (.arraylength, 1)) (hU : U[a]? = none) (hs : scr = some (a, L, xs)) : zEv U call own cc nL ret scr Q pc ls (.ref a :: r) σ = zEv U call own cc nL ret scr Q (pc + 1) ls (.int (nI L) :: r) σ := by
  rw [zEv_step hc hd]
  refine propext ⟨fun ⟨_, a', r', h1, h2⟩ => ?_, fun g => ⟨rfl, a, r, rfl, Or.inr ⟨L, xs, hU, hs, g⟩⟩⟩
  cases h1
  rcases h2 with ⟨b', n', h3, h4⟩ | ⟨L', xs', h3, h4, h5⟩
  · rw [hU] at h3; cases h3
  · rw [hs] at h4; cases h4; exact h5
end ZL1
def eL (L : Nat) (xs : Nat → Int32) (Q : zQ) : zP := zEv (zUn true) (zCall (zUn true) 8) RL cL_law 4 (some .boolean) (some (48, L, xs)) Q
def lj (j : Nat) : List Value := [.ref 48, .ref 0, .ref 28, .int (nI j)]
theorem lU48 : (zUn true)[48]? = none := rfl
theorem lMono : zMono (zCall (zUn true) 8) := zCall_mono (zUn true) 8
theorem zcat_n : zcat [] := Nat.zero_le 8
theorem zcat_o (v : Option Value) : zcat (v.toList ++ []) := by
  cases v with
  | none => exact Nat.zero_le 8
  | some v =>
    show v.category + 0 ≤ 8
    cases v <;> simp [Value.category]
section ZL2
variable {L : Nat} {xs : Nat → Int32} {Q : zQ} {j : Nat} {st : List Value} {σ : zV}
theorem l_al1 {pc pc1 : Nat} (d0 : decode cL_law pc = .ok (.aload_n 1, 1)) (hp : pc + 1 = pc1) : eL L xs Q pc (lj j) st σ = eL L xs Q pc1 (lj j) (.ref 0 :: st) σ := by
  subst hp
  exact q_aload_n lMono d0 rfl
theorem l_al2 {pc pc1 : Nat} (d0 : decode cL_law pc = .ok (.aload_n 2, 1)) (hp : pc + 1 = pc1) : eL L xs Q pc (lj j) st σ = eL L xs Q pc1 (lj j) (.ref 28 :: st) σ := by
  subst hp
  exact q_aload_n lMono d0 rfl
theorem l_arg {pc pc5 : Nat} (k : Nat) (hk : 0 < k ∧ k < 6) (hL : L ≤ 3072) (hj : j + 6 ≤ L) (d0 : decode cL_law pc = .ok (.aload_n 0, 1)) (d1 : decode cL_law (pc + 1) = .ok (.iload_n 3, 1)) {v : Int} (d2 : decode cL_law (pc + 2) = .ok (.iconst v, 1)) (hv : Int32.ofInt v = nI k) (d3 : decode cL_law (pc + 3) = .ok (.iadd, 1)) (d4 : decode cL_law (pc + 4) = .ok (.iaload, 1)) (hp : pc + 5 = pc5) : eL L xs Q pc (lj j) st σ = eL L xs Q pc5 (lj j) (.int (xs (j + k)) :: st) σ := by
  subst hp
  unfold eL
  rw [q_aload_n (x := 48) lMono d0 rfl, q_iload_n (x := nI j) lMono d1 rfl, q_iconst lMono d2 hv, q_iadd lMono d3, nI_add, q_sld lMono d4 lU48 rfl, vp_inE (by omega), nI_clamp (by omega)]
  exact propext ⟨fun h => h.2, fun h => ⟨by omega, h⟩⟩
theorem l_flag {pc pc8 : Nat} {x : Int32} (d0 : decode cL_law pc = .ok (.ifCond .eq 7, 3)) (d1 : decode cL_law (pc + 3) = .ok (.iconst 1, 1)) (d2 : decode cL_law (pc + 4) = .ok (.goto 4, 3)) (d3 : decode cL_law (pc + 7) = .ok (.iconst 0, 1)) (hp : pc + 8 = pc8) : eL L xs Q pc (lj j) (.int x :: st) σ = eL L xs Q pc8 (lj j) (.int (if x = 0 then 0 else 1) :: st) σ := by
  subst hp
  unfold eL
  rw [q_if (t := pc + 7) lMono d0 (by omega), q_iconst (v := 0) lMono d3 (by decide), q_iconst (v := 1) lMono d1 (by decide), q_goto (t := pc + 8) lMono d2 (by omega)]
  by_cases h : x = 0
  · rw [if_pos h]
    exact propext ⟨fun g => g.1 h, fun g => ⟨fun _ => g, fun q => absurd h q⟩⟩
  · rw [if_neg h]
    exact propext ⟨fun g => g.2 h, fun g => ⟨fun q => absurd q h, fun _ => g⟩⟩
theorem l_invX {pc pc3 idx : Nat} {y : MethodName} (As : List Value) {st' : List Value} (hd : decode cL_law pc = .ok (.invokevirtual idx, 3)) (hm : zmG RL idx = some (y, As.length, 0)) (hy : y.cls = RX5) (hst : st' = As.reverse ++ [.ref 0]) (hp : pc + 3 = pc3) : eL L xs Q pc (lj j) st' σ = zCall (zUn true) 8 y (.ref 0 :: As) σ (fun v σ' => eL L xs Q pc3 (lj j) (v.toList ++ []) σ') := by
  subst hp
  unfold eL
  exact q_inv lMono hd hm (by omega) (u_0 true) (by rw [hy]; exact zn_5) zcat_n hst
theorem l_invM {pc pc3 idx : Nat} {y : MethodName} (As : List Value) {st' : List Value} {v0 : Option Value} (hd : decode cL_law pc = .ok (.invokevirtual idx, 3)) (hm : zmG RL idx = some (y, As.length, 0)) (hy : y.cls = RX6) (hst : st' = As.reverse ++ .ref 28 :: (v0.toList ++ [])) (hp : pc + 3 = pc3) : eL L xs Q pc (lj j) st' σ = zCall (zUn true) 8 y (.ref 28 :: As) σ (fun v σ' => eL L xs Q pc3 (lj j) (v.toList ++ (v0.toList ++ [])) σ') := by
  subst hp
  unfold eL
  exact q_inv lMono hd hm (by omega) u_28 (by rw [hy]; exact zn_6) (zcat_o v0) hst
theorem l_918 : eL L xs Q 918 (lj j) [] σ = eL L xs Q 18 (lj (j + 6)) [] σ := by
  unfold eL
  rw [q_iinc (x := nI j) (v := nI 6) (ls' := lj (j + 6)) lMono (by decide +kernel : decode cL_law 918 = .ok (.iinc 3 6, 3)) rfl (by omega) (fun v h => by cases h; rfl) (by decide) (by rw [nI_add]; rfl), q_goto (t := 18) lMono (by decide +kernel : decode cL_law 921 = .ok (.goto (-903), 3)) (by decide)]
theorem l_eq {pc : Nat} {off : Int} {x : Int32} (d0 : decode cL_law pc = .ok (.if_icmp .eq off, 3)) (ht : (pc : Int) + off = (918 : Nat)) (h : eL L xs Q 18 (lj (j + 6)) [] σ) : eL L xs Q pc (lj j) [.int x, .int x] σ := by
  rw [← l_918] at h
  unfold eL at h ⊢
  rw [q_icmp lMono d0 ht]
  exact ⟨fun _ => h, fun q => absurd rfl q⟩
theorem l_leq {pc : Nat} {off : Int} {x : Int64} (d0 : decode cL_law pc = .ok (.lcmp, 1)) (d1 : decode cL_law (pc + 1) = .ok (.ifCond .eq off, 3)) (ht : ((pc + 1 : Nat) : Int) + off = (918 : Nat)) (h : eL L xs Q 18 (lj (j + 6)) [] σ) : eL L xs Q pc (lj j) [.long x, .long x] σ := by
  rw [← l_918] at h
  unfold eL at h ⊢
  have e : lg_cmp x x = 0 := by
    unfold lg_cmp
    rw [if_neg (by show ¬ x < x; exact Int64.lt_irrefl), if_pos rfl]
  rw [q_lcmp lMono d0, q_if lMono d1 ht, e]
  exact ⟨fun _ => h, fun q => absurd rfl q⟩
theorem law_0 (hL : L ≤ 3072) (hj : j + 6 ≤ L) (h : Rel (10 * j) σ) (ih : ∀ σ, Rel (10 * (j + 6)) σ → eL L xs Q 18 (lj (j + 6)) [] σ) : eL L xs Q 140 (lj j) [] σ := by
  rw [l_al1 (by decide +kernel : decode cL_law 140 = .ok (.aload_n 1, 1)) (rfl : 140 + 1 = 141)]
  rw [l_arg 1 (by omega) hL hj (by decide +kernel : decode cL_law 141 = .ok (.aload_n 0, 1)) (by decide +kernel : decode cL_law 142 = .ok (.iload_n 3, 1)) (by decide +kernel : decode cL_law 143 = .ok (.iconst 1, 1)) (by decide) (by decide +kernel : decode cL_law 144 = .ok (.iadd, 1)) (by decide +kernel : decode cL_law 145 = .ok (.iaload, 1)) (rfl : 141 + 5 = 146)]
  rw [l_invX [.int (xs (j + 1))] (st' := [.int (xs (j + 1)), .ref 0]) (by decide +kernel : decode cL_law 146 = .ok (.invokevirtual 13, 3)) zm_RL_13 rfl rfl (rfl : 146 + 3 = 149)]
  refine zCall_mono _ _ _ _ _ _ _ (fun v σ1 h1 => ?_) (J_cores h (xs (j + 1)))
  rw [l_al2 (by decide +kernel : decode cL_law 149 = .ok (.aload_n 2, 1)) (rfl : 149 + 1 = 150)]
  rw [l_arg 1 (by omega) hL hj (by decide +kernel : decode cL_law 150 = .ok (.aload_n 0, 1)) (by decide +kernel : decode cL_law 151 = .ok (.iload_n 3, 1)) (by decide +kernel : decode cL_law 152 = .ok (.iconst 1, 1)) (by decide) (by decide +kernel : decode cL_law 153 = .ok (.iadd, 1)) (by decide +kernel : decode cL_law 154 = .ok (.iaload, 1)) (rfl : 150 + 5 = 155)]
  rw [l_invM [.int (xs (j + 1))] (st' := .int (xs (j + 1)) :: .ref 28 :: (v.toList ++ [])) (by decide +kernel : decode cL_law 155 = .ok (.invokevirtual 17, 3)) zm_RL_17 rfl rfl (rfl : 155 + 3 = 158)]
  refine zCall_mono _ _ _ _ _ _ _ (fun v2 σ2 h2 => ?_) h1
  obtain ⟨r, rfl, rfl, hR⟩ := h2
  exact l_eq (by decide +kernel : decode cL_law 158 = .ok (.if_icmp .eq 760, 3)) (by decide) (ih _ (Rel_wk hR (by omega)))
theorem law_1 (hL : L ≤ 3072) (hj : j + 6 ≤ L) (h : Rel (10 * j) σ) (ih : ∀ σ, Rel (10 * (j + 6)) σ → eL L xs Q 18 (lj (j + 6)) [] σ) : eL L xs Q 163 (lj j) [] σ := by
  rw [l_al1 (by decide +kernel : decode cL_law 163 = .ok (.aload_n 1, 1)) (rfl : 163 + 1 = 164)]
  rw [l_arg 1 (by omega) hL hj (by decide +kernel : decode cL_law 164 = .ok (.aload_n 0, 1)) (by decide +kernel : decode cL_law 165 = .ok (.iload_n 3, 1)) (by decide +kernel : decode cL_law 166 = .ok (.iconst 1, 1)) (by decide) (by decide +kernel : decode cL_law 167 = .ok (.iadd, 1)) (by decide +kernel : decode cL_law 168 = .ok (.iaload, 1)) (rfl : 164 + 5 = 169)]
  rw [l_arg 2 (by omega) hL hj (by decide +kernel : decode cL_law 169 = .ok (.aload_n 0, 1)) (by decide +kernel : decode cL_law 170 = .ok (.iload_n 3, 1)) (by decide +kernel : decode cL_law 171 = .ok (.iconst 2, 1)) (by decide) (by decide +kernel : decode cL_law 172 = .ok (.iadd, 1)) (by decide +kernel : decode cL_law 173 = .ok (.iaload, 1)) (rfl : 169 + 5 = 174)]
  rw [l_arg 3 (by omega) hL hj (by decide +kernel : decode cL_law 174 = .ok (.aload_n 0, 1)) (by decide +kernel : decode cL_law 175 = .ok (.iload_n 3, 1)) (by decide +kernel : decode cL_law 176 = .ok (.iconst 3, 1)) (by decide) (by decide +kernel : decode cL_law 177 = .ok (.iadd, 1)) (by decide +kernel : decode cL_law 178 = .ok (.iaload, 1)) (rfl : 174 + 5 = 179)]
  rw [l_arg 4 (by omega) hL hj (by decide +kernel : decode cL_law 179 = .ok (.aload_n 0, 1)) (by decide +kernel : decode cL_law 180 = .ok (.iload_n 3, 1)) (by decide +kernel : decode cL_law 181 = .ok (.iconst 4, 1)) (by decide) (by decide +kernel : decode cL_law 182 = .ok (.iadd, 1)) (by decide +kernel : decode cL_law 183 = .ok (.iaload, 1)) (rfl : 179 + 5 = 184)]
  rw [l_flag (by decide +kernel : decode cL_law 184 = .ok (.ifCond .eq 7, 3)) (by decide +kernel : decode cL_law 187 = .ok (.iconst 1, 1)) (by decide +kernel : decode cL_law 188 = .ok (.goto 4, 3)) (by decide +kernel : decode cL_law 191 = .ok (.iconst 0, 1)) (rfl : 184 + 8 = 192)]
  rw [l_invX [.int (xs (j + 1)), .int (xs (j + 2)), .int (xs (j + 3)), .int ((if xs (j + 4) = 0 then 0 else 1))] (st' := [.int ((if xs (j + 4) = 0 then 0 else 1)), .int (xs (j + 3)), .int (xs (j + 2)), .int (xs (j + 1)), .ref 0]) (by decide +kernel : decode cL_law 192 = .ok (.invokevirtual 18, 3)) zm_RL_18 rfl rfl (rfl : 192 + 3 = 195)]
  refine zCall_mono _ _ _ _ _ _ _ (fun v σ1 h1 => ?_) (J_map h (xs (j + 1)) (xs (j + 2)) (xs (j + 3)) ((if xs (j + 4) = 0 then 0 else 1)))
  rw [l_al2 (by decide +kernel : decode cL_law 195 = .ok (.aload_n 2, 1)) (rfl : 195 + 1 = 196)]
  rw [l_arg 1 (by omega) hL hj (by decide +kernel : decode cL_law 196 = .ok (.aload_n 0, 1)) (by decide +kernel : decode cL_law 197 = .ok (.iload_n 3, 1)) (by decide +kernel : decode cL_law 198 = .ok (.iconst 1, 1)) (by decide) (by decide +kernel : decode cL_law 199 = .ok (.iadd, 1)) (by decide +kernel : decode cL_law 200 = .ok (.iaload, 1)) (rfl : 196 + 5 = 201)]
  rw [l_arg 2 (by omega) hL hj (by decide +kernel : decode cL_law 201 = .ok (.aload_n 0, 1)) (by decide +kernel : decode cL_law 202 = .ok (.iload_n 3, 1)) (by decide +kernel : decode cL_law 203 = .ok (.iconst 2, 1)) (by decide) (by decide +kernel : decode cL_law 204 = .ok (.iadd, 1)) (by decide +kernel : decode cL_law 205 = .ok (.iaload, 1)) (rfl : 201 + 5 = 206)]
  rw [l_arg 3 (by omega) hL hj (by decide +kernel : decode cL_law 206 = .ok (.aload_n 0, 1)) (by decide +kernel : decode cL_law 207 = .ok (.iload_n 3, 1)) (by decide +kernel : decode cL_law 208 = .ok (.iconst 3, 1)) (by decide) (by decide +kernel : decode cL_law 209 = .ok (.iadd, 1)) (by decide +kernel : decode cL_law 210 = .ok (.iaload, 1)) (rfl : 206 + 5 = 211)]
  rw [l_arg 4 (by omega) hL hj (by decide +kernel : decode cL_law 211 = .ok (.aload_n 0, 1)) (by decide +kernel : decode cL_law 212 = .ok (.iload_n 3, 1)) (by decide +kernel : decode cL_law 213 = .ok (.iconst 4, 1)) (by decide) (by decide +kernel : decode cL_law 214 = .ok (.iadd, 1)) (by decide +kernel : decode cL_law 215 = .ok (.iaload, 1)) (rfl : 211 + 5 = 216)]
  rw [l_flag (by decide +kernel : decode cL_law 216 = .ok (.ifCond .eq 7, 3)) (by decide +kernel : decode cL_law 219 = .ok (.iconst 1, 1)) (by decide +kernel : decode cL_law 220 = .ok (.goto 4, 3)) (by decide +kernel : decode cL_law 223 = .ok (.iconst 0, 1)) (rfl : 216 + 8 = 224)]
  rw [l_invM [.int (xs (j + 1)), .int (xs (j + 2)), .int (xs (j + 3)), .int ((if xs (j + 4) = 0 then 0 else 1))] (st' := .int ((if xs (j + 4) = 0 then 0 else 1)) :: .int (xs (j + 3)) :: .int (xs (j + 2)) :: .int (xs (j + 1)) :: .ref 28 :: (v.toList ++ [])) (by decide +kernel : decode cL_law 224 = .ok (.invokevirtual 22, 3)) zm_RL_22 rfl rfl (rfl : 224 + 3 = 227)]
  refine zCall_mono _ _ _ _ _ _ _ (fun v2 σ2 h2 => ?_) h1
  obtain ⟨r, rfl, rfl, hR⟩ := h2
  exact l_eq (by decide +kernel : decode cL_law 227 = .ok (.if_icmp .eq 691, 3)) (by decide) (ih _ (Rel_wk hR (by omega)))
theorem law_2 (hL : L ≤ 3072) (hj : j + 6 ≤ L) (h : Rel (10 * j) σ) (ih : ∀ σ, Rel (10 * (j + 6)) σ → eL L xs Q 18 (lj (j + 6)) [] σ) : eL L xs Q 232 (lj j) [] σ := by
  rw [l_al1 (by decide +kernel : decode cL_law 232 = .ok (.aload_n 1, 1)) (rfl : 232 + 1 = 233)]
  rw [l_arg 1 (by omega) hL hj (by decide +kernel : decode cL_law 233 = .ok (.aload_n 0, 1)) (by decide +kernel : decode cL_law 234 = .ok (.iload_n 3, 1)) (by decide +kernel : decode cL_law 235 = .ok (.iconst 1, 1)) (by decide) (by decide +kernel : decode cL_law 236 = .ok (.iadd, 1)) (by decide +kernel : decode cL_law 237 = .ok (.iaload, 1)) (rfl : 233 + 5 = 238)]
  rw [l_arg 2 (by omega) hL hj (by decide +kernel : decode cL_law 238 = .ok (.aload_n 0, 1)) (by decide +kernel : decode cL_law 239 = .ok (.iload_n 3, 1)) (by decide +kernel : decode cL_law 240 = .ok (.iconst 2, 1)) (by decide) (by decide +kernel : decode cL_law 241 = .ok (.iadd, 1)) (by decide +kernel : decode cL_law 242 = .ok (.iaload, 1)) (rfl : 238 + 5 = 243)]
  rw [l_invX [.int (xs (j + 1)), .int (xs (j + 2))] (st' := [.int (xs (j + 2)), .int (xs (j + 1)), .ref 0]) (by decide +kernel : decode cL_law 243 = .ok (.invokevirtual 23, 3)) zm_RL_23 rfl rfl (rfl : 243 + 3 = 246)]
  refine zCall_mono _ _ _ _ _ _ _ (fun v σ1 h1 => ?_) (J_entry h (xs (j + 1)) (xs (j + 2)))
  rw [l_al2 (by decide +kernel : decode cL_law 246 = .ok (.aload_n 2, 1)) (rfl : 246 + 1 = 247)]
  rw [l_arg 1 (by omega) hL hj (by decide +kernel : decode cL_law 247 = .ok (.aload_n 0, 1)) (by decide +kernel : decode cL_law 248 = .ok (.iload_n 3, 1)) (by decide +kernel : decode cL_law 249 = .ok (.iconst 1, 1)) (by decide) (by decide +kernel : decode cL_law 250 = .ok (.iadd, 1)) (by decide +kernel : decode cL_law 251 = .ok (.iaload, 1)) (rfl : 247 + 5 = 252)]
  rw [l_arg 2 (by omega) hL hj (by decide +kernel : decode cL_law 252 = .ok (.aload_n 0, 1)) (by decide +kernel : decode cL_law 253 = .ok (.iload_n 3, 1)) (by decide +kernel : decode cL_law 254 = .ok (.iconst 2, 1)) (by decide) (by decide +kernel : decode cL_law 255 = .ok (.iadd, 1)) (by decide +kernel : decode cL_law 256 = .ok (.iaload, 1)) (rfl : 252 + 5 = 257)]
  rw [l_invM [.int (xs (j + 1)), .int (xs (j + 2))] (st' := .int (xs (j + 2)) :: .int (xs (j + 1)) :: .ref 28 :: (v.toList ++ [])) (by decide +kernel : decode cL_law 257 = .ok (.invokevirtual 27, 3)) zm_RL_27 rfl rfl (rfl : 257 + 3 = 260)]
  refine zCall_mono _ _ _ _ _ _ _ (fun v2 σ2 h2 => ?_) h1
  obtain ⟨r, rfl, rfl, hR⟩ := h2
  exact l_eq (by decide +kernel : decode cL_law 260 = .ok (.if_icmp .eq 658, 3)) (by decide) (ih _ (Rel_wk hR (by omega)))
theorem law_3 (hL : L ≤ 3072) (hj : j + 6 ≤ L) (h : Rel (10 * j) σ) (ih : ∀ σ, Rel (10 * (j + 6)) σ → eL L xs Q 18 (lj (j + 6)) [] σ) : eL L xs Q 265 (lj j) [] σ := by
  rw [l_al1 (by decide +kernel : decode cL_law 265 = .ok (.aload_n 1, 1)) (rfl : 265 + 1 = 266)]
  rw [l_arg 1 (by omega) hL hj (by decide +kernel : decode cL_law 266 = .ok (.aload_n 0, 1)) (by decide +kernel : decode cL_law 267 = .ok (.iload_n 3, 1)) (by decide +kernel : decode cL_law 268 = .ok (.iconst 1, 1)) (by decide) (by decide +kernel : decode cL_law 269 = .ok (.iadd, 1)) (by decide +kernel : decode cL_law 270 = .ok (.iaload, 1)) (rfl : 266 + 5 = 271)]
  rw [l_arg 2 (by omega) hL hj (by decide +kernel : decode cL_law 271 = .ok (.aload_n 0, 1)) (by decide +kernel : decode cL_law 272 = .ok (.iload_n 3, 1)) (by decide +kernel : decode cL_law 273 = .ok (.iconst 2, 1)) (by decide) (by decide +kernel : decode cL_law 274 = .ok (.iadd, 1)) (by decide +kernel : decode cL_law 275 = .ok (.iaload, 1)) (rfl : 271 + 5 = 276)]
  rw [l_invX [.int (xs (j + 1)), .int (xs (j + 2))] (st' := [.int (xs (j + 2)), .int (xs (j + 1)), .ref 0]) (by decide +kernel : decode cL_law 276 = .ok (.invokevirtual 28, 3)) zm_RL_28 rfl rfl (rfl : 276 + 3 = 279)]
  refine zCall_mono _ _ _ _ _ _ _ (fun v σ1 h1 => ?_) (J_enter h (by omega) (xs (j + 1)) (xs (j + 2)))
  rw [l_al2 (by decide +kernel : decode cL_law 279 = .ok (.aload_n 2, 1)) (rfl : 279 + 1 = 280)]
  rw [l_arg 1 (by omega) hL hj (by decide +kernel : decode cL_law 280 = .ok (.aload_n 0, 1)) (by decide +kernel : decode cL_law 281 = .ok (.iload_n 3, 1)) (by decide +kernel : decode cL_law 282 = .ok (.iconst 1, 1)) (by decide) (by decide +kernel : decode cL_law 283 = .ok (.iadd, 1)) (by decide +kernel : decode cL_law 284 = .ok (.iaload, 1)) (rfl : 280 + 5 = 285)]
  rw [l_arg 2 (by omega) hL hj (by decide +kernel : decode cL_law 285 = .ok (.aload_n 0, 1)) (by decide +kernel : decode cL_law 286 = .ok (.iload_n 3, 1)) (by decide +kernel : decode cL_law 287 = .ok (.iconst 2, 1)) (by decide) (by decide +kernel : decode cL_law 288 = .ok (.iadd, 1)) (by decide +kernel : decode cL_law 289 = .ok (.iaload, 1)) (rfl : 285 + 5 = 290)]
  rw [l_invM [.int (xs (j + 1)), .int (xs (j + 2))] (st' := .int (xs (j + 2)) :: .int (xs (j + 1)) :: .ref 28 :: (v.toList ++ [])) (by decide +kernel : decode cL_law 290 = .ok (.invokevirtual 31, 3)) zm_RL_31 rfl rfl (rfl : 290 + 3 = 293)]
  refine zCall_mono _ _ _ _ _ _ _ (fun v2 σ2 h2 => ?_) h1
  obtain ⟨r, rfl, rfl, hR⟩ := h2
  exact l_eq (by decide +kernel : decode cL_law 293 = .ok (.if_icmp .eq 625, 3)) (by decide) (ih _ (Rel_wk hR (by omega)))
theorem law_4 (hL : L ≤ 3072) (hj : j + 6 ≤ L) (h : Rel (10 * j) σ) (ih : ∀ σ, Rel (10 * (j + 6)) σ → eL L xs Q 18 (lj (j + 6)) [] σ) : eL L xs Q 298 (lj j) [] σ := by
  rw [l_al1 (by decide +kernel : decode cL_law 298 = .ok (.aload_n 1, 1)) (rfl : 298 + 1 = 299)]
  rw [l_arg 1 (by omega) hL hj (by decide +kernel : decode cL_law 299 = .ok (.aload_n 0, 1)) (by decide +kernel : decode cL_law 300 = .ok (.iload_n 3, 1)) (by decide +kernel : decode cL_law 301 = .ok (.iconst 1, 1)) (by decide) (by decide +kernel : decode cL_law 302 = .ok (.iadd, 1)) (by decide +kernel : decode cL_law 303 = .ok (.iaload, 1)) (rfl : 299 + 5 = 304)]
  rw [l_invX [.int (xs (j + 1))] (st' := [.int (xs (j + 1)), .ref 0]) (by decide +kernel : decode cL_law 304 = .ok (.invokevirtual 32, 3)) zm_RL_32 rfl rfl (rfl : 304 + 3 = 307)]
  refine zCall_mono _ _ _ _ _ _ _ (fun v σ1 h1 => ?_) (J_sleep h (by omega) (xs (j + 1)))
  rw [l_al2 (by decide +kernel : decode cL_law 307 = .ok (.aload_n 2, 1)) (rfl : 307 + 1 = 308)]
  rw [l_arg 1 (by omega) hL hj (by decide +kernel : decode cL_law 308 = .ok (.aload_n 0, 1)) (by decide +kernel : decode cL_law 309 = .ok (.iload_n 3, 1)) (by decide +kernel : decode cL_law 310 = .ok (.iconst 1, 1)) (by decide) (by decide +kernel : decode cL_law 311 = .ok (.iadd, 1)) (by decide +kernel : decode cL_law 312 = .ok (.iaload, 1)) (rfl : 308 + 5 = 313)]
  rw [l_invM [.int (xs (j + 1))] (st' := .int (xs (j + 1)) :: .ref 28 :: (v.toList ++ [])) (by decide +kernel : decode cL_law 313 = .ok (.invokevirtual 35, 3)) zm_RL_35 rfl rfl (rfl : 313 + 3 = 316)]
  refine zCall_mono _ _ _ _ _ _ _ (fun v2 σ2 h2 => ?_) h1
  obtain ⟨r, rfl, rfl, hR⟩ := h2
  exact l_eq (by decide +kernel : decode cL_law 316 = .ok (.if_icmp .eq 602, 3)) (by decide) (ih _ (Rel_wk hR (by omega)))
theorem law_5 (hL : L ≤ 3072) (hj : j + 6 ≤ L) (h : Rel (10 * j) σ) (ih : ∀ σ, Rel (10 * (j + 6)) σ → eL L xs Q 18 (lj (j + 6)) [] σ) : eL L xs Q 321 (lj j) [] σ := by
  rw [l_al1 (by decide +kernel : decode cL_law 321 = .ok (.aload_n 1, 1)) (rfl : 321 + 1 = 322)]
  rw [l_arg 1 (by omega) hL hj (by decide +kernel : decode cL_law 322 = .ok (.aload_n 0, 1)) (by decide +kernel : decode cL_law 323 = .ok (.iload_n 3, 1)) (by decide +kernel : decode cL_law 324 = .ok (.iconst 1, 1)) (by decide) (by decide +kernel : decode cL_law 325 = .ok (.iadd, 1)) (by decide +kernel : decode cL_law 326 = .ok (.iaload, 1)) (rfl : 322 + 5 = 327)]
  rw [l_invX [.int (xs (j + 1))] (st' := [.int (xs (j + 1)), .ref 0]) (by decide +kernel : decode cL_law 327 = .ok (.invokevirtual 36, 3)) zm_RL_36 rfl rfl (rfl : 327 + 3 = 330)]
  refine zCall_mono _ _ _ _ _ _ _ (fun v σ1 h1 => ?_) (J_wake h (xs (j + 1)))
  rw [l_al2 (by decide +kernel : decode cL_law 330 = .ok (.aload_n 2, 1)) (rfl : 330 + 1 = 331)]
  rw [l_arg 1 (by omega) hL hj (by decide +kernel : decode cL_law 331 = .ok (.aload_n 0, 1)) (by decide +kernel : decode cL_law 332 = .ok (.iload_n 3, 1)) (by decide +kernel : decode cL_law 333 = .ok (.iconst 1, 1)) (by decide) (by decide +kernel : decode cL_law 334 = .ok (.iadd, 1)) (by decide +kernel : decode cL_law 335 = .ok (.iaload, 1)) (rfl : 331 + 5 = 336)]
  rw [l_invM [.int (xs (j + 1))] (st' := .int (xs (j + 1)) :: .ref 28 :: (v.toList ++ [])) (by decide +kernel : decode cL_law 336 = .ok (.invokevirtual 39, 3)) zm_RL_39 rfl rfl (rfl : 336 + 3 = 339)]
  refine zCall_mono _ _ _ _ _ _ _ (fun v2 σ2 h2 => ?_) h1
  obtain ⟨r, rfl, rfl, hR⟩ := h2
  exact l_eq (by decide +kernel : decode cL_law 339 = .ok (.if_icmp .eq 579, 3)) (by decide) (ih _ (Rel_wk hR (by omega)))
theorem law_6 (hL : L ≤ 3072) (hj : j + 6 ≤ L) (h : Rel (10 * j) σ) (ih : ∀ σ, Rel (10 * (j + 6)) σ → eL L xs Q 18 (lj (j + 6)) [] σ) : eL L xs Q 344 (lj j) [] σ := by
  rw [l_al1 (by decide +kernel : decode cL_law 344 = .ok (.aload_n 1, 1)) (rfl : 344 + 1 = 345)]
  rw [l_arg 1 (by omega) hL hj (by decide +kernel : decode cL_law 345 = .ok (.aload_n 0, 1)) (by decide +kernel : decode cL_law 346 = .ok (.iload_n 3, 1)) (by decide +kernel : decode cL_law 347 = .ok (.iconst 1, 1)) (by decide) (by decide +kernel : decode cL_law 348 = .ok (.iadd, 1)) (by decide +kernel : decode cL_law 349 = .ok (.iaload, 1)) (rfl : 345 + 5 = 350)]
  rw [l_arg 2 (by omega) hL hj (by decide +kernel : decode cL_law 350 = .ok (.aload_n 0, 1)) (by decide +kernel : decode cL_law 351 = .ok (.iload_n 3, 1)) (by decide +kernel : decode cL_law 352 = .ok (.iconst 2, 1)) (by decide) (by decide +kernel : decode cL_law 353 = .ok (.iadd, 1)) (by decide +kernel : decode cL_law 354 = .ok (.iaload, 1)) (rfl : 350 + 5 = 355)]
  rw [l_arg 3 (by omega) hL hj (by decide +kernel : decode cL_law 355 = .ok (.aload_n 0, 1)) (by decide +kernel : decode cL_law 356 = .ok (.iload_n 3, 1)) (by decide +kernel : decode cL_law 357 = .ok (.iconst 3, 1)) (by decide) (by decide +kernel : decode cL_law 358 = .ok (.iadd, 1)) (by decide +kernel : decode cL_law 359 = .ok (.iaload, 1)) (rfl : 355 + 5 = 360)]
  rw [l_flag (by decide +kernel : decode cL_law 360 = .ok (.ifCond .eq 7, 3)) (by decide +kernel : decode cL_law 363 = .ok (.iconst 1, 1)) (by decide +kernel : decode cL_law 364 = .ok (.goto 4, 3)) (by decide +kernel : decode cL_law 367 = .ok (.iconst 0, 1)) (rfl : 360 + 8 = 368)]
  rw [l_invX [.int (xs (j + 1)), .int (xs (j + 2)), .int ((if xs (j + 3) = 0 then 0 else 1))] (st' := [.int ((if xs (j + 3) = 0 then 0 else 1)), .int (xs (j + 2)), .int (xs (j + 1)), .ref 0]) (by decide +kernel : decode cL_law 368 = .ok (.invokevirtual 40, 3)) zm_RL_40 rfl rfl (rfl : 368 + 3 = 371)]
  refine zCall_mono _ _ _ _ _ _ _ (fun v σ1 h1 => ?_) (J_look h (by omega) (xs (j + 1)) (xs (j + 2)) ((if xs (j + 3) = 0 then 0 else 1)))
  rw [l_al2 (by decide +kernel : decode cL_law 371 = .ok (.aload_n 2, 1)) (rfl : 371 + 1 = 372)]
  rw [l_arg 1 (by omega) hL hj (by decide +kernel : decode cL_law 372 = .ok (.aload_n 0, 1)) (by decide +kernel : decode cL_law 373 = .ok (.iload_n 3, 1)) (by decide +kernel : decode cL_law 374 = .ok (.iconst 1, 1)) (by decide) (by decide +kernel : decode cL_law 375 = .ok (.iadd, 1)) (by decide +kernel : decode cL_law 376 = .ok (.iaload, 1)) (rfl : 372 + 5 = 377)]
  rw [l_arg 2 (by omega) hL hj (by decide +kernel : decode cL_law 377 = .ok (.aload_n 0, 1)) (by decide +kernel : decode cL_law 378 = .ok (.iload_n 3, 1)) (by decide +kernel : decode cL_law 379 = .ok (.iconst 2, 1)) (by decide) (by decide +kernel : decode cL_law 380 = .ok (.iadd, 1)) (by decide +kernel : decode cL_law 381 = .ok (.iaload, 1)) (rfl : 377 + 5 = 382)]
  rw [l_arg 3 (by omega) hL hj (by decide +kernel : decode cL_law 382 = .ok (.aload_n 0, 1)) (by decide +kernel : decode cL_law 383 = .ok (.iload_n 3, 1)) (by decide +kernel : decode cL_law 384 = .ok (.iconst 3, 1)) (by decide) (by decide +kernel : decode cL_law 385 = .ok (.iadd, 1)) (by decide +kernel : decode cL_law 386 = .ok (.iaload, 1)) (rfl : 382 + 5 = 387)]
  rw [l_flag (by decide +kernel : decode cL_law 387 = .ok (.ifCond .eq 7, 3)) (by decide +kernel : decode cL_law 390 = .ok (.iconst 1, 1)) (by decide +kernel : decode cL_law 391 = .ok (.goto 4, 3)) (by decide +kernel : decode cL_law 394 = .ok (.iconst 0, 1)) (rfl : 387 + 8 = 395)]
  rw [l_invM [.int (xs (j + 1)), .int (xs (j + 2)), .int ((if xs (j + 3) = 0 then 0 else 1))] (st' := .int ((if xs (j + 3) = 0 then 0 else 1)) :: .int (xs (j + 2)) :: .int (xs (j + 1)) :: .ref 28 :: (v.toList ++ [])) (by decide +kernel : decode cL_law 395 = .ok (.invokevirtual 44, 3)) zm_RL_44 rfl rfl (rfl : 395 + 3 = 398)]
  refine zCall_mono _ _ _ _ _ _ _ (fun v2 σ2 h2 => ?_) h1
  obtain ⟨r, rfl, rfl, hR⟩ := h2
  exact l_eq (by decide +kernel : decode cL_law 398 = .ok (.if_icmp .eq 520, 3)) (by decide) (ih _ (Rel_wk hR (by omega)))
theorem law_7 (hL : L ≤ 3072) (hj : j + 6 ≤ L) (h : Rel (10 * j) σ) (ih : ∀ σ, Rel (10 * (j + 6)) σ → eL L xs Q 18 (lj (j + 6)) [] σ) : eL L xs Q 403 (lj j) [] σ := by
  rw [l_al1 (by decide +kernel : decode cL_law 403 = .ok (.aload_n 1, 1)) (rfl : 403 + 1 = 404)]
  rw [l_invX [] (st' := [.ref 0]) (by decide +kernel : decode cL_law 404 = .ok (.invokevirtual 45, 3)) zm_RL_45 rfl rfl (rfl : 404 + 3 = 407)]
  refine zCall_mono _ _ _ _ _ _ _ (fun v σ1 h1 => ?_) (J_how h)
  rw [l_al2 (by decide +kernel : decode cL_law 407 = .ok (.aload_n 2, 1)) (rfl : 407 + 1 = 408)]
  rw [l_invM [] (st' := .ref 28 :: (v.toList ++ [])) (by decide +kernel : decode cL_law 408 = .ok (.invokevirtual 49, 3)) zm_RL_49 rfl rfl (rfl : 408 + 3 = 411)]
  refine zCall_mono _ _ _ _ _ _ _ (fun v2 σ2 h2 => ?_) h1
  obtain ⟨r, rfl, rfl, hR⟩ := h2
  exact l_eq (by decide +kernel : decode cL_law 411 = .ok (.if_icmp .eq 507, 3)) (by decide) (ih _ (Rel_wk hR (by omega)))
theorem law_8 (hL : L ≤ 3072) (hj : j + 6 ≤ L) (h : Rel (10 * j) σ) (ih : ∀ σ, Rel (10 * (j + 6)) σ → eL L xs Q 18 (lj (j + 6)) [] σ) : eL L xs Q 416 (lj j) [] σ := by
  rw [l_al1 (by decide +kernel : decode cL_law 416 = .ok (.aload_n 1, 1)) (rfl : 416 + 1 = 417)]
  rw [l_arg 1 (by omega) hL hj (by decide +kernel : decode cL_law 417 = .ok (.aload_n 0, 1)) (by decide +kernel : decode cL_law 418 = .ok (.iload_n 3, 1)) (by decide +kernel : decode cL_law 419 = .ok (.iconst 1, 1)) (by decide) (by decide +kernel : decode cL_law 420 = .ok (.iadd, 1)) (by decide +kernel : decode cL_law 421 = .ok (.iaload, 1)) (rfl : 417 + 5 = 422)]
  rw [l_arg 2 (by omega) hL hj (by decide +kernel : decode cL_law 422 = .ok (.aload_n 0, 1)) (by decide +kernel : decode cL_law 423 = .ok (.iload_n 3, 1)) (by decide +kernel : decode cL_law 424 = .ok (.iconst 2, 1)) (by decide) (by decide +kernel : decode cL_law 425 = .ok (.iadd, 1)) (by decide +kernel : decode cL_law 426 = .ok (.iaload, 1)) (rfl : 422 + 5 = 427)]
  rw [l_arg 3 (by omega) hL hj (by decide +kernel : decode cL_law 427 = .ok (.aload_n 0, 1)) (by decide +kernel : decode cL_law 428 = .ok (.iload_n 3, 1)) (by decide +kernel : decode cL_law 429 = .ok (.iconst 3, 1)) (by decide) (by decide +kernel : decode cL_law 430 = .ok (.iadd, 1)) (by decide +kernel : decode cL_law 431 = .ok (.iaload, 1)) (rfl : 427 + 5 = 432)]
  rw [l_invX [.int (xs (j + 1)), .int (xs (j + 2)), .int (xs (j + 3))] (st' := [.int (xs (j + 3)), .int (xs (j + 2)), .int (xs (j + 1)), .ref 0]) (by decide +kernel : decode cL_law 432 = .ok (.invokevirtual 50, 3)) zm_RL_50 rfl rfl (rfl : 432 + 3 = 435)]
  refine zCall_mono _ _ _ _ _ _ _ (fun v σ1 h1 => ?_) (J_note h (xs (j + 1)) (xs (j + 2)) (xs (j + 3)))
  rw [l_al2 (by decide +kernel : decode cL_law 435 = .ok (.aload_n 2, 1)) (rfl : 435 + 1 = 436)]
  rw [l_arg 1 (by omega) hL hj (by decide +kernel : decode cL_law 436 = .ok (.aload_n 0, 1)) (by decide +kernel : decode cL_law 437 = .ok (.iload_n 3, 1)) (by decide +kernel : decode cL_law 438 = .ok (.iconst 1, 1)) (by decide) (by decide +kernel : decode cL_law 439 = .ok (.iadd, 1)) (by decide +kernel : decode cL_law 440 = .ok (.iaload, 1)) (rfl : 436 + 5 = 441)]
  rw [l_arg 2 (by omega) hL hj (by decide +kernel : decode cL_law 441 = .ok (.aload_n 0, 1)) (by decide +kernel : decode cL_law 442 = .ok (.iload_n 3, 1)) (by decide +kernel : decode cL_law 443 = .ok (.iconst 2, 1)) (by decide) (by decide +kernel : decode cL_law 444 = .ok (.iadd, 1)) (by decide +kernel : decode cL_law 445 = .ok (.iaload, 1)) (rfl : 441 + 5 = 446)]
  rw [l_arg 3 (by omega) hL hj (by decide +kernel : decode cL_law 446 = .ok (.aload_n 0, 1)) (by decide +kernel : decode cL_law 447 = .ok (.iload_n 3, 1)) (by decide +kernel : decode cL_law 448 = .ok (.iconst 3, 1)) (by decide) (by decide +kernel : decode cL_law 449 = .ok (.iadd, 1)) (by decide +kernel : decode cL_law 450 = .ok (.iaload, 1)) (rfl : 446 + 5 = 451)]
  rw [l_invM [.int (xs (j + 1)), .int (xs (j + 2)), .int (xs (j + 3))] (st' := .int (xs (j + 3)) :: .int (xs (j + 2)) :: .int (xs (j + 1)) :: .ref 28 :: (v.toList ++ [])) (by decide +kernel : decode cL_law 451 = .ok (.invokevirtual 54, 3)) zm_RL_54 rfl rfl (rfl : 451 + 3 = 454)]
  refine zCall_mono _ _ _ _ _ _ _ (fun v2 σ2 h2 => ?_) h1
  obtain ⟨r, rfl, rfl, hR⟩ := h2
  exact l_eq (by decide +kernel : decode cL_law 454 = .ok (.if_icmp .eq 464, 3)) (by decide) (ih _ (Rel_wk hR (by omega)))
theorem law_9 (hL : L ≤ 3072) (hj : j + 6 ≤ L) (h : Rel (10 * j) σ) (ih : ∀ σ, Rel (10 * (j + 6)) σ → eL L xs Q 18 (lj (j + 6)) [] σ) : eL L xs Q 459 (lj j) [] σ := by
  rw [l_al1 (by decide +kernel : decode cL_law 459 = .ok (.aload_n 1, 1)) (rfl : 459 + 1 = 460)]
  rw [l_arg 1 (by omega) hL hj (by decide +kernel : decode cL_law 460 = .ok (.aload_n 0, 1)) (by decide +kernel : decode cL_law 461 = .ok (.iload_n 3, 1)) (by decide +kernel : decode cL_law 462 = .ok (.iconst 1, 1)) (by decide) (by decide +kernel : decode cL_law 463 = .ok (.iadd, 1)) (by decide +kernel : decode cL_law 464 = .ok (.iaload, 1)) (rfl : 460 + 5 = 465)]
  rw [l_arg 2 (by omega) hL hj (by decide +kernel : decode cL_law 465 = .ok (.aload_n 0, 1)) (by decide +kernel : decode cL_law 466 = .ok (.iload_n 3, 1)) (by decide +kernel : decode cL_law 467 = .ok (.iconst 2, 1)) (by decide) (by decide +kernel : decode cL_law 468 = .ok (.iadd, 1)) (by decide +kernel : decode cL_law 469 = .ok (.iaload, 1)) (rfl : 465 + 5 = 470)]
  rw [l_invX [.int (xs (j + 1)), .int (xs (j + 2))] (st' := [.int (xs (j + 2)), .int (xs (j + 1)), .ref 0]) (by decide +kernel : decode cL_law 470 = .ok (.invokevirtual 55, 3)) zm_RL_55 rfl rfl (rfl : 470 + 3 = 473)]
  refine zCall_mono _ _ _ _ _ _ _ (fun v σ1 h1 => ?_) (J_wasSo h (xs (j + 1)) (xs (j + 2)))
  rw [l_al2 (by decide +kernel : decode cL_law 473 = .ok (.aload_n 2, 1)) (rfl : 473 + 1 = 474)]
  rw [l_arg 1 (by omega) hL hj (by decide +kernel : decode cL_law 474 = .ok (.aload_n 0, 1)) (by decide +kernel : decode cL_law 475 = .ok (.iload_n 3, 1)) (by decide +kernel : decode cL_law 476 = .ok (.iconst 1, 1)) (by decide) (by decide +kernel : decode cL_law 477 = .ok (.iadd, 1)) (by decide +kernel : decode cL_law 478 = .ok (.iaload, 1)) (rfl : 474 + 5 = 479)]
  rw [l_arg 2 (by omega) hL hj (by decide +kernel : decode cL_law 479 = .ok (.aload_n 0, 1)) (by decide +kernel : decode cL_law 480 = .ok (.iload_n 3, 1)) (by decide +kernel : decode cL_law 481 = .ok (.iconst 2, 1)) (by decide) (by decide +kernel : decode cL_law 482 = .ok (.iadd, 1)) (by decide +kernel : decode cL_law 483 = .ok (.iaload, 1)) (rfl : 479 + 5 = 484)]
  rw [l_invM [.int (xs (j + 1)), .int (xs (j + 2))] (st' := .int (xs (j + 2)) :: .int (xs (j + 1)) :: .ref 28 :: (v.toList ++ [])) (by decide +kernel : decode cL_law 484 = .ok (.invokevirtual 58, 3)) zm_RL_58 rfl rfl (rfl : 484 + 3 = 487)]
  refine zCall_mono _ _ _ _ _ _ _ (fun v2 σ2 h2 => ?_) h1
  obtain ⟨r, rfl, rfl, hR⟩ := h2
  exact l_eq (by decide +kernel : decode cL_law 487 = .ok (.if_icmp .eq 431, 3)) (by decide) (ih _ (Rel_wk hR (by omega)))
theorem law_10 (hL : L ≤ 3072) (hj : j + 6 ≤ L) (h : Rel (10 * j) σ) (ih : ∀ σ, Rel (10 * (j + 6)) σ → eL L xs Q 18 (lj (j + 6)) [] σ) : eL L xs Q 492 (lj j) [] σ := by
  rw [l_al1 (by decide +kernel : decode cL_law 492 = .ok (.aload_n 1, 1)) (rfl : 492 + 1 = 493)]
  rw [l_arg 1 (by omega) hL hj (by decide +kernel : decode cL_law 493 = .ok (.aload_n 0, 1)) (by decide +kernel : decode cL_law 494 = .ok (.iload_n 3, 1)) (by decide +kernel : decode cL_law 495 = .ok (.iconst 1, 1)) (by decide) (by decide +kernel : decode cL_law 496 = .ok (.iadd, 1)) (by decide +kernel : decode cL_law 497 = .ok (.iaload, 1)) (rfl : 493 + 5 = 498)]
  rw [l_arg 2 (by omega) hL hj (by decide +kernel : decode cL_law 498 = .ok (.aload_n 0, 1)) (by decide +kernel : decode cL_law 499 = .ok (.iload_n 3, 1)) (by decide +kernel : decode cL_law 500 = .ok (.iconst 2, 1)) (by decide) (by decide +kernel : decode cL_law 501 = .ok (.iadd, 1)) (by decide +kernel : decode cL_law 502 = .ok (.iaload, 1)) (rfl : 498 + 5 = 503)]
  rw [l_arg 3 (by omega) hL hj (by decide +kernel : decode cL_law 503 = .ok (.aload_n 0, 1)) (by decide +kernel : decode cL_law 504 = .ok (.iload_n 3, 1)) (by decide +kernel : decode cL_law 505 = .ok (.iconst 3, 1)) (by decide) (by decide +kernel : decode cL_law 506 = .ok (.iadd, 1)) (by decide +kernel : decode cL_law 507 = .ok (.iaload, 1)) (rfl : 503 + 5 = 508)]
  rw [l_invX [.int (xs (j + 1)), .int (xs (j + 2)), .int (xs (j + 3))] (st' := [.int (xs (j + 3)), .int (xs (j + 2)), .int (xs (j + 1)), .ref 0]) (by decide +kernel : decode cL_law 508 = .ok (.invokevirtual 59, 3)) zm_RL_59 rfl rfl (rfl : 508 + 3 = 511)]
  refine zCall_mono _ _ _ _ _ _ _ (fun v σ1 h1 => ?_) (J_unmap h (by omega) (xs (j + 1)) (xs (j + 2)) (xs (j + 3)))
  rw [l_al2 (by decide +kernel : decode cL_law 511 = .ok (.aload_n 2, 1)) (rfl : 511 + 1 = 512)]
  rw [l_arg 1 (by omega) hL hj (by decide +kernel : decode cL_law 512 = .ok (.aload_n 0, 1)) (by decide +kernel : decode cL_law 513 = .ok (.iload_n 3, 1)) (by decide +kernel : decode cL_law 514 = .ok (.iconst 1, 1)) (by decide) (by decide +kernel : decode cL_law 515 = .ok (.iadd, 1)) (by decide +kernel : decode cL_law 516 = .ok (.iaload, 1)) (rfl : 512 + 5 = 517)]
  rw [l_arg 2 (by omega) hL hj (by decide +kernel : decode cL_law 517 = .ok (.aload_n 0, 1)) (by decide +kernel : decode cL_law 518 = .ok (.iload_n 3, 1)) (by decide +kernel : decode cL_law 519 = .ok (.iconst 2, 1)) (by decide) (by decide +kernel : decode cL_law 520 = .ok (.iadd, 1)) (by decide +kernel : decode cL_law 521 = .ok (.iaload, 1)) (rfl : 517 + 5 = 522)]
  rw [l_arg 3 (by omega) hL hj (by decide +kernel : decode cL_law 522 = .ok (.aload_n 0, 1)) (by decide +kernel : decode cL_law 523 = .ok (.iload_n 3, 1)) (by decide +kernel : decode cL_law 524 = .ok (.iconst 3, 1)) (by decide) (by decide +kernel : decode cL_law 525 = .ok (.iadd, 1)) (by decide +kernel : decode cL_law 526 = .ok (.iaload, 1)) (rfl : 522 + 5 = 527)]
  rw [l_invM [.int (xs (j + 1)), .int (xs (j + 2)), .int (xs (j + 3))] (st' := .int (xs (j + 3)) :: .int (xs (j + 2)) :: .int (xs (j + 1)) :: .ref 28 :: (v.toList ++ [])) (by decide +kernel : decode cL_law 527 = .ok (.invokevirtual 62, 3)) zm_RL_62 rfl rfl (rfl : 527 + 3 = 530)]
  refine zCall_mono _ _ _ _ _ _ _ (fun v2 σ2 h2 => ?_) h1
  obtain ⟨r, rfl, rfl, hR⟩ := h2
  exact l_eq (by decide +kernel : decode cL_law 530 = .ok (.if_icmp .eq 388, 3)) (by decide) (ih _ (Rel_wk hR (by omega)))
theorem law_11 (hL : L ≤ 3072) (hj : j + 6 ≤ L) (h : Rel (10 * j) σ) (ih : ∀ σ, Rel (10 * (j + 6)) σ → eL L xs Q 18 (lj (j + 6)) [] σ) : eL L xs Q 535 (lj j) [] σ := by
  rw [l_al1 (by decide +kernel : decode cL_law 535 = .ok (.aload_n 1, 1)) (rfl : 535 + 1 = 536)]
  rw [l_arg 1 (by omega) hL hj (by decide +kernel : decode cL_law 536 = .ok (.aload_n 0, 1)) (by decide +kernel : decode cL_law 537 = .ok (.iload_n 3, 1)) (by decide +kernel : decode cL_law 538 = .ok (.iconst 1, 1)) (by decide) (by decide +kernel : decode cL_law 539 = .ok (.iadd, 1)) (by decide +kernel : decode cL_law 540 = .ok (.iaload, 1)) (rfl : 536 + 5 = 541)]
  rw [l_arg 2 (by omega) hL hj (by decide +kernel : decode cL_law 541 = .ok (.aload_n 0, 1)) (by decide +kernel : decode cL_law 542 = .ok (.iload_n 3, 1)) (by decide +kernel : decode cL_law 543 = .ok (.iconst 2, 1)) (by decide) (by decide +kernel : decode cL_law 544 = .ok (.iadd, 1)) (by decide +kernel : decode cL_law 545 = .ok (.iaload, 1)) (rfl : 541 + 5 = 546)]
  rw [l_arg 3 (by omega) hL hj (by decide +kernel : decode cL_law 546 = .ok (.aload_n 0, 1)) (by decide +kernel : decode cL_law 547 = .ok (.iload_n 3, 1)) (by decide +kernel : decode cL_law 548 = .ok (.iconst 3, 1)) (by decide) (by decide +kernel : decode cL_law 549 = .ok (.iadd, 1)) (by decide +kernel : decode cL_law 550 = .ok (.iaload, 1)) (rfl : 546 + 5 = 551)]
  rw [l_arg 4 (by omega) hL hj (by decide +kernel : decode cL_law 551 = .ok (.aload_n 0, 1)) (by decide +kernel : decode cL_law 552 = .ok (.iload_n 3, 1)) (by decide +kernel : decode cL_law 553 = .ok (.iconst 4, 1)) (by decide) (by decide +kernel : decode cL_law 554 = .ok (.iadd, 1)) (by decide +kernel : decode cL_law 555 = .ok (.iaload, 1)) (rfl : 551 + 5 = 556)]
  rw [l_arg 5 (by omega) hL hj (by decide +kernel : decode cL_law 556 = .ok (.aload_n 0, 1)) (by decide +kernel : decode cL_law 557 = .ok (.iload_n 3, 1)) (by decide +kernel : decode cL_law 558 = .ok (.iconst 5, 1)) (by decide) (by decide +kernel : decode cL_law 559 = .ok (.iadd, 1)) (by decide +kernel : decode cL_law 560 = .ok (.iaload, 1)) (rfl : 556 + 5 = 561)]
  rw [l_flag (by decide +kernel : decode cL_law 561 = .ok (.ifCond .eq 7, 3)) (by decide +kernel : decode cL_law 564 = .ok (.iconst 1, 1)) (by decide +kernel : decode cL_law 565 = .ok (.goto 4, 3)) (by decide +kernel : decode cL_law 568 = .ok (.iconst 0, 1)) (rfl : 561 + 8 = 569)]
  rw [l_invX [.int (xs (j + 1)), .int (xs (j + 2)), .int (xs (j + 3)), .int (xs (j + 4)), .int ((if xs (j + 5) = 0 then 0 else 1))] (st' := [.int ((if xs (j + 5) = 0 then 0 else 1)), .int (xs (j + 4)), .int (xs (j + 3)), .int (xs (j + 2)), .int (xs (j + 1)), .ref 0]) (by decide +kernel : decode cL_law 569 = .ok (.invokevirtual 63, 3)) zm_RL_63 rfl rfl (rfl : 569 + 3 = 572)]
  refine zCall_mono _ _ _ _ _ _ _ (fun v σ1 h1 => ?_) (J_remap h (by omega) (xs (j + 1)) (xs (j + 2)) (xs (j + 3)) (xs (j + 4)) ((if xs (j + 5) = 0 then 0 else 1)))
  rw [l_al2 (by decide +kernel : decode cL_law 572 = .ok (.aload_n 2, 1)) (rfl : 572 + 1 = 573)]
  rw [l_arg 1 (by omega) hL hj (by decide +kernel : decode cL_law 573 = .ok (.aload_n 0, 1)) (by decide +kernel : decode cL_law 574 = .ok (.iload_n 3, 1)) (by decide +kernel : decode cL_law 575 = .ok (.iconst 1, 1)) (by decide) (by decide +kernel : decode cL_law 576 = .ok (.iadd, 1)) (by decide +kernel : decode cL_law 577 = .ok (.iaload, 1)) (rfl : 573 + 5 = 578)]
  rw [l_arg 2 (by omega) hL hj (by decide +kernel : decode cL_law 578 = .ok (.aload_n 0, 1)) (by decide +kernel : decode cL_law 579 = .ok (.iload_n 3, 1)) (by decide +kernel : decode cL_law 580 = .ok (.iconst 2, 1)) (by decide) (by decide +kernel : decode cL_law 581 = .ok (.iadd, 1)) (by decide +kernel : decode cL_law 582 = .ok (.iaload, 1)) (rfl : 578 + 5 = 583)]
  rw [l_arg 3 (by omega) hL hj (by decide +kernel : decode cL_law 583 = .ok (.aload_n 0, 1)) (by decide +kernel : decode cL_law 584 = .ok (.iload_n 3, 1)) (by decide +kernel : decode cL_law 585 = .ok (.iconst 3, 1)) (by decide) (by decide +kernel : decode cL_law 586 = .ok (.iadd, 1)) (by decide +kernel : decode cL_law 587 = .ok (.iaload, 1)) (rfl : 583 + 5 = 588)]
  rw [l_arg 4 (by omega) hL hj (by decide +kernel : decode cL_law 588 = .ok (.aload_n 0, 1)) (by decide +kernel : decode cL_law 589 = .ok (.iload_n 3, 1)) (by decide +kernel : decode cL_law 590 = .ok (.iconst 4, 1)) (by decide) (by decide +kernel : decode cL_law 591 = .ok (.iadd, 1)) (by decide +kernel : decode cL_law 592 = .ok (.iaload, 1)) (rfl : 588 + 5 = 593)]
  rw [l_arg 5 (by omega) hL hj (by decide +kernel : decode cL_law 593 = .ok (.aload_n 0, 1)) (by decide +kernel : decode cL_law 594 = .ok (.iload_n 3, 1)) (by decide +kernel : decode cL_law 595 = .ok (.iconst 5, 1)) (by decide) (by decide +kernel : decode cL_law 596 = .ok (.iadd, 1)) (by decide +kernel : decode cL_law 597 = .ok (.iaload, 1)) (rfl : 593 + 5 = 598)]
  rw [l_flag (by decide +kernel : decode cL_law 598 = .ok (.ifCond .eq 7, 3)) (by decide +kernel : decode cL_law 601 = .ok (.iconst 1, 1)) (by decide +kernel : decode cL_law 602 = .ok (.goto 4, 3)) (by decide +kernel : decode cL_law 605 = .ok (.iconst 0, 1)) (rfl : 598 + 8 = 606)]
  rw [l_invM [.int (xs (j + 1)), .int (xs (j + 2)), .int (xs (j + 3)), .int (xs (j + 4)), .int ((if xs (j + 5) = 0 then 0 else 1))] (st' := .int ((if xs (j + 5) = 0 then 0 else 1)) :: .int (xs (j + 4)) :: .int (xs (j + 3)) :: .int (xs (j + 2)) :: .int (xs (j + 1)) :: .ref 28 :: (v.toList ++ [])) (by decide +kernel : decode cL_law 606 = .ok (.invokevirtual 67, 3)) zm_RL_67 rfl rfl (rfl : 606 + 3 = 609)]
  refine zCall_mono _ _ _ _ _ _ _ (fun v2 σ2 h2 => ?_) h1
  obtain ⟨r, rfl, rfl, hR⟩ := h2
  exact l_eq (by decide +kernel : decode cL_law 609 = .ok (.if_icmp .eq 309, 3)) (by decide) (ih _ (Rel_wk hR (by omega)))
theorem law_12 (hL : L ≤ 3072) (hj : j + 6 ≤ L) (h : Rel (10 * j) σ) (ih : ∀ σ, Rel (10 * (j + 6)) σ → eL L xs Q 18 (lj (j + 6)) [] σ) : eL L xs Q 614 (lj j) [] σ := by
  rw [l_al1 (by decide +kernel : decode cL_law 614 = .ok (.aload_n 1, 1)) (rfl : 614 + 1 = 615)]
  rw [l_arg 1 (by omega) hL hj (by decide +kernel : decode cL_law 615 = .ok (.aload_n 0, 1)) (by decide +kernel : decode cL_law 616 = .ok (.iload_n 3, 1)) (by decide +kernel : decode cL_law 617 = .ok (.iconst 1, 1)) (by decide) (by decide +kernel : decode cL_law 618 = .ok (.iadd, 1)) (by decide +kernel : decode cL_law 619 = .ok (.iaload, 1)) (rfl : 615 + 5 = 620)]
  rw [l_arg 2 (by omega) hL hj (by decide +kernel : decode cL_law 620 = .ok (.aload_n 0, 1)) (by decide +kernel : decode cL_law 621 = .ok (.iload_n 3, 1)) (by decide +kernel : decode cL_law 622 = .ok (.iconst 2, 1)) (by decide) (by decide +kernel : decode cL_law 623 = .ok (.iadd, 1)) (by decide +kernel : decode cL_law 624 = .ok (.iaload, 1)) (rfl : 620 + 5 = 625)]
  rw [l_invX [.int (xs (j + 1)), .int (xs (j + 2))] (st' := [.int (xs (j + 2)), .int (xs (j + 1)), .ref 0]) (by decide +kernel : decode cL_law 625 = .ok (.invokevirtual 68, 3)) zm_RL_68 rfl rfl (rfl : 625 + 3 = 628)]
  refine zCall_mono _ _ _ _ _ _ _ (fun v σ1 h1 => ?_) (J_clear h (by omega) (xs (j + 1)) (xs (j + 2)))
  rw [l_al2 (by decide +kernel : decode cL_law 628 = .ok (.aload_n 2, 1)) (rfl : 628 + 1 = 629)]
  rw [l_arg 1 (by omega) hL hj (by decide +kernel : decode cL_law 629 = .ok (.aload_n 0, 1)) (by decide +kernel : decode cL_law 630 = .ok (.iload_n 3, 1)) (by decide +kernel : decode cL_law 631 = .ok (.iconst 1, 1)) (by decide) (by decide +kernel : decode cL_law 632 = .ok (.iadd, 1)) (by decide +kernel : decode cL_law 633 = .ok (.iaload, 1)) (rfl : 629 + 5 = 634)]
  rw [l_arg 2 (by omega) hL hj (by decide +kernel : decode cL_law 634 = .ok (.aload_n 0, 1)) (by decide +kernel : decode cL_law 635 = .ok (.iload_n 3, 1)) (by decide +kernel : decode cL_law 636 = .ok (.iconst 2, 1)) (by decide) (by decide +kernel : decode cL_law 637 = .ok (.iadd, 1)) (by decide +kernel : decode cL_law 638 = .ok (.iaload, 1)) (rfl : 634 + 5 = 639)]
  rw [l_invM [.int (xs (j + 1)), .int (xs (j + 2))] (st' := .int (xs (j + 2)) :: .int (xs (j + 1)) :: .ref 28 :: (v.toList ++ [])) (by decide +kernel : decode cL_law 639 = .ok (.invokevirtual 71, 3)) zm_RL_71 rfl rfl (rfl : 639 + 3 = 642)]
  refine zCall_mono _ _ _ _ _ _ _ (fun v2 σ2 h2 => ?_) h1
  obtain ⟨r, rfl, rfl, hR⟩ := h2
  exact l_eq (by decide +kernel : decode cL_law 642 = .ok (.if_icmp .eq 276, 3)) (by decide) (ih _ (Rel_wk hR (by omega)))
theorem law_13 (hL : L ≤ 3072) (hj : j + 6 ≤ L) (h : Rel (10 * j) σ) (ih : ∀ σ, Rel (10 * (j + 6)) σ → eL L xs Q 18 (lj (j + 6)) [] σ) : eL L xs Q 647 (lj j) [] σ := by
  rw [l_al1 (by decide +kernel : decode cL_law 647 = .ok (.aload_n 1, 1)) (rfl : 647 + 1 = 648)]
  rw [l_arg 1 (by omega) hL hj (by decide +kernel : decode cL_law 648 = .ok (.aload_n 0, 1)) (by decide +kernel : decode cL_law 649 = .ok (.iload_n 3, 1)) (by decide +kernel : decode cL_law 650 = .ok (.iconst 1, 1)) (by decide) (by decide +kernel : decode cL_law 651 = .ok (.iadd, 1)) (by decide +kernel : decode cL_law 652 = .ok (.iaload, 1)) (rfl : 648 + 5 = 653)]
  rw [l_invX [.int (xs (j + 1))] (st' := [.int (xs (j + 1)), .ref 0]) (by decide +kernel : decode cL_law 653 = .ok (.invokevirtual 72, 3)) zm_RL_72 rfl rfl (rfl : 653 + 3 = 656)]
  refine zCall_mono _ _ _ _ _ _ _ (fun v σ1 h1 => ?_) (J_take h (by omega) (xs (j + 1)))
  rw [l_al2 (by decide +kernel : decode cL_law 656 = .ok (.aload_n 2, 1)) (rfl : 656 + 1 = 657)]
  rw [l_arg 1 (by omega) hL hj (by decide +kernel : decode cL_law 657 = .ok (.aload_n 0, 1)) (by decide +kernel : decode cL_law 658 = .ok (.iload_n 3, 1)) (by decide +kernel : decode cL_law 659 = .ok (.iconst 1, 1)) (by decide) (by decide +kernel : decode cL_law 660 = .ok (.iadd, 1)) (by decide +kernel : decode cL_law 661 = .ok (.iaload, 1)) (rfl : 657 + 5 = 662)]
  rw [l_invM [.int (xs (j + 1))] (st' := .int (xs (j + 1)) :: .ref 28 :: (v.toList ++ [])) (by decide +kernel : decode cL_law 662 = .ok (.invokevirtual 75, 3)) zm_RL_75 rfl rfl (rfl : 662 + 3 = 665)]
  refine zCall_mono _ _ _ _ _ _ _ (fun v2 σ2 h2 => ?_) h1
  obtain ⟨r, rfl, rfl, hR⟩ := h2
  exact l_eq (by decide +kernel : decode cL_law 665 = .ok (.if_icmp .eq 253, 3)) (by decide) (ih _ (Rel_wk hR (by omega)))
theorem law_14 (hL : L ≤ 3072) (hj : j + 6 ≤ L) (h : Rel (10 * j) σ) (ih : ∀ σ, Rel (10 * (j + 6)) σ → eL L xs Q 18 (lj (j + 6)) [] σ) : eL L xs Q 670 (lj j) [] σ := by
  rw [l_al1 (by decide +kernel : decode cL_law 670 = .ok (.aload_n 1, 1)) (rfl : 670 + 1 = 671)]
  rw [l_arg 1 (by omega) hL hj (by decide +kernel : decode cL_law 671 = .ok (.aload_n 0, 1)) (by decide +kernel : decode cL_law 672 = .ok (.iload_n 3, 1)) (by decide +kernel : decode cL_law 673 = .ok (.iconst 1, 1)) (by decide) (by decide +kernel : decode cL_law 674 = .ok (.iadd, 1)) (by decide +kernel : decode cL_law 675 = .ok (.iaload, 1)) (rfl : 671 + 5 = 676)]
  rw [l_arg 2 (by omega) hL hj (by decide +kernel : decode cL_law 676 = .ok (.aload_n 0, 1)) (by decide +kernel : decode cL_law 677 = .ok (.iload_n 3, 1)) (by decide +kernel : decode cL_law 678 = .ok (.iconst 2, 1)) (by decide) (by decide +kernel : decode cL_law 679 = .ok (.iadd, 1)) (by decide +kernel : decode cL_law 680 = .ok (.iaload, 1)) (rfl : 676 + 5 = 681)]
  rw [l_invX [.int (xs (j + 1)), .int (xs (j + 2))] (st' := [.int (xs (j + 2)), .int (xs (j + 1)), .ref 0]) (by decide +kernel : decode cL_law 681 = .ok (.invokevirtual 76, 3)) zm_RL_76 rfl rfl (rfl : 681 + 3 = 684)]
  refine zCall_mono _ _ _ _ _ _ _ (fun v σ1 h1 => ?_) (J_rounds h (by omega) (xs (j + 1)) (xs (j + 2)))
  rw [l_al2 (by decide +kernel : decode cL_law 684 = .ok (.aload_n 2, 1)) (rfl : 684 + 1 = 685)]
  rw [l_arg 1 (by omega) hL hj (by decide +kernel : decode cL_law 685 = .ok (.aload_n 0, 1)) (by decide +kernel : decode cL_law 686 = .ok (.iload_n 3, 1)) (by decide +kernel : decode cL_law 687 = .ok (.iconst 1, 1)) (by decide) (by decide +kernel : decode cL_law 688 = .ok (.iadd, 1)) (by decide +kernel : decode cL_law 689 = .ok (.iaload, 1)) (rfl : 685 + 5 = 690)]
  rw [l_arg 2 (by omega) hL hj (by decide +kernel : decode cL_law 690 = .ok (.aload_n 0, 1)) (by decide +kernel : decode cL_law 691 = .ok (.iload_n 3, 1)) (by decide +kernel : decode cL_law 692 = .ok (.iconst 2, 1)) (by decide) (by decide +kernel : decode cL_law 693 = .ok (.iadd, 1)) (by decide +kernel : decode cL_law 694 = .ok (.iaload, 1)) (rfl : 690 + 5 = 695)]
  rw [l_invM [.int (xs (j + 1)), .int (xs (j + 2))] (st' := .int (xs (j + 2)) :: .int (xs (j + 1)) :: .ref 28 :: (v.toList ++ [])) (by decide +kernel : decode cL_law 695 = .ok (.invokevirtual 79, 3)) zm_RL_79 rfl rfl (rfl : 695 + 3 = 698)]
  refine zCall_mono _ _ _ _ _ _ _ (fun v2 σ2 h2 => ?_) h1
  obtain ⟨r, rfl, rfl, hR⟩ := h2
  exact l_eq (by decide +kernel : decode cL_law 698 = .ok (.if_icmp .eq 220, 3)) (by decide) (ih _ (Rel_wk hR (by omega)))
theorem law_15 (hL : L ≤ 3072) (hj : j + 6 ≤ L) (h : Rel (10 * j) σ) (ih : ∀ σ, Rel (10 * (j + 6)) σ → eL L xs Q 18 (lj (j + 6)) [] σ) : eL L xs Q 703 (lj j) [] σ := by
  rw [l_al1 (by decide +kernel : decode cL_law 703 = .ok (.aload_n 1, 1)) (rfl : 703 + 1 = 704)]
  rw [l_arg 1 (by omega) hL hj (by decide +kernel : decode cL_law 704 = .ok (.aload_n 0, 1)) (by decide +kernel : decode cL_law 705 = .ok (.iload_n 3, 1)) (by decide +kernel : decode cL_law 706 = .ok (.iconst 1, 1)) (by decide) (by decide +kernel : decode cL_law 707 = .ok (.iadd, 1)) (by decide +kernel : decode cL_law 708 = .ok (.iaload, 1)) (rfl : 704 + 5 = 709)]
  rw [l_arg 2 (by omega) hL hj (by decide +kernel : decode cL_law 709 = .ok (.aload_n 0, 1)) (by decide +kernel : decode cL_law 710 = .ok (.iload_n 3, 1)) (by decide +kernel : decode cL_law 711 = .ok (.iconst 2, 1)) (by decide) (by decide +kernel : decode cL_law 712 = .ok (.iadd, 1)) (by decide +kernel : decode cL_law 713 = .ok (.iaload, 1)) (rfl : 709 + 5 = 714)]
  rw [l_invX [.int (xs (j + 1)), .int (xs (j + 2))] (st' := [.int (xs (j + 2)), .int (xs (j + 1)), .ref 0]) (by decide +kernel : decode cL_law 714 = .ok (.invokevirtual 80, 3)) zm_RL_80 rfl rfl (rfl : 714 + 3 = 717)]
  refine zCall_mono _ _ _ _ _ _ _ (fun v σ1 h1 => ?_) (J_shoot h (xs (j + 1)) (xs (j + 2)))
  rw [l_al2 (by decide +kernel : decode cL_law 717 = .ok (.aload_n 2, 1)) (rfl : 717 + 1 = 718)]
  rw [l_arg 1 (by omega) hL hj (by decide +kernel : decode cL_law 718 = .ok (.aload_n 0, 1)) (by decide +kernel : decode cL_law 719 = .ok (.iload_n 3, 1)) (by decide +kernel : decode cL_law 720 = .ok (.iconst 1, 1)) (by decide) (by decide +kernel : decode cL_law 721 = .ok (.iadd, 1)) (by decide +kernel : decode cL_law 722 = .ok (.iaload, 1)) (rfl : 718 + 5 = 723)]
  rw [l_arg 2 (by omega) hL hj (by decide +kernel : decode cL_law 723 = .ok (.aload_n 0, 1)) (by decide +kernel : decode cL_law 724 = .ok (.iload_n 3, 1)) (by decide +kernel : decode cL_law 725 = .ok (.iconst 2, 1)) (by decide) (by decide +kernel : decode cL_law 726 = .ok (.iadd, 1)) (by decide +kernel : decode cL_law 727 = .ok (.iaload, 1)) (rfl : 723 + 5 = 728)]
  rw [l_invM [.int (xs (j + 1)), .int (xs (j + 2))] (st' := .int (xs (j + 2)) :: .int (xs (j + 1)) :: .ref 28 :: (v.toList ++ [])) (by decide +kernel : decode cL_law 728 = .ok (.invokevirtual 83, 3)) zm_RL_83 rfl rfl (rfl : 728 + 3 = 731)]
  refine zCall_mono _ _ _ _ _ _ _ (fun v2 σ2 h2 => ?_) h1
  obtain ⟨r, rfl, rfl, hR⟩ := h2
  exact l_eq (by decide +kernel : decode cL_law 731 = .ok (.if_icmp .eq 187, 3)) (by decide) (ih _ (Rel_wk hR (by omega)))
theorem law_16 (hL : L ≤ 3072) (hj : j + 6 ≤ L) (h : Rel (10 * j) σ) (ih : ∀ σ, Rel (10 * (j + 6)) σ → eL L xs Q 18 (lj (j + 6)) [] σ) : eL L xs Q 736 (lj j) [] σ := by
  rw [l_al1 (by decide +kernel : decode cL_law 736 = .ok (.aload_n 1, 1)) (rfl : 736 + 1 = 737)]
  rw [l_arg 1 (by omega) hL hj (by decide +kernel : decode cL_law 737 = .ok (.aload_n 0, 1)) (by decide +kernel : decode cL_law 738 = .ok (.iload_n 3, 1)) (by decide +kernel : decode cL_law 739 = .ok (.iconst 1, 1)) (by decide) (by decide +kernel : decode cL_law 740 = .ok (.iadd, 1)) (by decide +kernel : decode cL_law 741 = .ok (.iaload, 1)) (rfl : 737 + 5 = 742)]
  rw [l_invX [.int (xs (j + 1))] (st' := [.int (xs (j + 1)), .ref 0]) (by decide +kernel : decode cL_law 742 = .ok (.invokevirtual 84, 3)) zm_RL_84 rfl rfl (rfl : 742 + 3 = 745)]
  refine zCall_mono _ _ _ _ _ _ _ (fun v σ1 h1 => ?_) (J_underWay h (xs (j + 1)))
  rw [l_al2 (by decide +kernel : decode cL_law 745 = .ok (.aload_n 2, 1)) (rfl : 745 + 1 = 746)]
  rw [l_arg 1 (by omega) hL hj (by decide +kernel : decode cL_law 746 = .ok (.aload_n 0, 1)) (by decide +kernel : decode cL_law 747 = .ok (.iload_n 3, 1)) (by decide +kernel : decode cL_law 748 = .ok (.iconst 1, 1)) (by decide) (by decide +kernel : decode cL_law 749 = .ok (.iadd, 1)) (by decide +kernel : decode cL_law 750 = .ok (.iaload, 1)) (rfl : 746 + 5 = 751)]
  rw [l_invM [.int (xs (j + 1))] (st' := .int (xs (j + 1)) :: .ref 28 :: (v.toList ++ [])) (by decide +kernel : decode cL_law 751 = .ok (.invokevirtual 87, 3)) zm_RL_87 rfl rfl (rfl : 751 + 3 = 754)]
  refine zCall_mono _ _ _ _ _ _ _ (fun v2 σ2 h2 => ?_) h1
  obtain ⟨r, rfl, rfl, hR⟩ := h2
  exact l_eq (by decide +kernel : decode cL_law 754 = .ok (.if_icmp .eq 164, 3)) (by decide) (ih _ (Rel_wk hR (by omega)))
theorem law_17 (hL : L ≤ 3072) (hj : j + 6 ≤ L) (h : Rel (10 * j) σ) (ih : ∀ σ, Rel (10 * (j + 6)) σ → eL L xs Q 18 (lj (j + 6)) [] σ) : eL L xs Q 759 (lj j) [] σ := by
  rw [l_al1 (by decide +kernel : decode cL_law 759 = .ok (.aload_n 1, 1)) (rfl : 759 + 1 = 760)]
  rw [l_arg 1 (by omega) hL hj (by decide +kernel : decode cL_law 760 = .ok (.aload_n 0, 1)) (by decide +kernel : decode cL_law 761 = .ok (.iload_n 3, 1)) (by decide +kernel : decode cL_law 762 = .ok (.iconst 1, 1)) (by decide) (by decide +kernel : decode cL_law 763 = .ok (.iadd, 1)) (by decide +kernel : decode cL_law 764 = .ok (.iaload, 1)) (rfl : 760 + 5 = 765)]
  rw [l_arg 2 (by omega) hL hj (by decide +kernel : decode cL_law 765 = .ok (.aload_n 0, 1)) (by decide +kernel : decode cL_law 766 = .ok (.iload_n 3, 1)) (by decide +kernel : decode cL_law 767 = .ok (.iconst 2, 1)) (by decide) (by decide +kernel : decode cL_law 768 = .ok (.iadd, 1)) (by decide +kernel : decode cL_law 769 = .ok (.iaload, 1)) (rfl : 765 + 5 = 770)]
  rw [l_invX [.int (xs (j + 1)), .int (xs (j + 2))] (st' := [.int (xs (j + 2)), .int (xs (j + 1)), .ref 0]) (by decide +kernel : decode cL_law 770 = .ok (.invokevirtual 88, 3)) zm_RL_88 rfl rfl (rfl : 770 + 3 = 773)]
  refine zCall_mono _ _ _ _ _ _ _ (fun v σ1 h1 => ?_) (J_core h (xs (j + 1)) (xs (j + 2)))
  rw [l_al2 (by decide +kernel : decode cL_law 773 = .ok (.aload_n 2, 1)) (rfl : 773 + 1 = 774)]
  rw [l_arg 1 (by omega) hL hj (by decide +kernel : decode cL_law 774 = .ok (.aload_n 0, 1)) (by decide +kernel : decode cL_law 775 = .ok (.iload_n 3, 1)) (by decide +kernel : decode cL_law 776 = .ok (.iconst 1, 1)) (by decide) (by decide +kernel : decode cL_law 777 = .ok (.iadd, 1)) (by decide +kernel : decode cL_law 778 = .ok (.iaload, 1)) (rfl : 774 + 5 = 779)]
  rw [l_arg 2 (by omega) hL hj (by decide +kernel : decode cL_law 779 = .ok (.aload_n 0, 1)) (by decide +kernel : decode cL_law 780 = .ok (.iload_n 3, 1)) (by decide +kernel : decode cL_law 781 = .ok (.iconst 2, 1)) (by decide) (by decide +kernel : decode cL_law 782 = .ok (.iadd, 1)) (by decide +kernel : decode cL_law 783 = .ok (.iaload, 1)) (rfl : 779 + 5 = 784)]
  rw [l_invM [.int (xs (j + 1)), .int (xs (j + 2))] (st' := .int (xs (j + 2)) :: .int (xs (j + 1)) :: .ref 28 :: (v.toList ++ [])) (by decide +kernel : decode cL_law 784 = .ok (.invokevirtual 91, 3)) zm_RL_91 rfl rfl (rfl : 784 + 3 = 787)]
  refine zCall_mono _ _ _ _ _ _ _ (fun v2 σ2 h2 => ?_) h1
  obtain ⟨r, rfl, rfl, hR⟩ := h2
  exact l_eq (by decide +kernel : decode cL_law 787 = .ok (.if_icmp .eq 131, 3)) (by decide) (ih _ (Rel_wk hR (by omega)))
theorem law_18 (hL : L ≤ 3072) (hj : j + 6 ≤ L) (h : Rel (10 * j) σ) (ih : ∀ σ, Rel (10 * (j + 6)) σ → eL L xs Q 18 (lj (j + 6)) [] σ) : eL L xs Q 792 (lj j) [] σ := by
  rw [l_al1 (by decide +kernel : decode cL_law 792 = .ok (.aload_n 1, 1)) (rfl : 792 + 1 = 793)]
  rw [l_arg 1 (by omega) hL hj (by decide +kernel : decode cL_law 793 = .ok (.aload_n 0, 1)) (by decide +kernel : decode cL_law 794 = .ok (.iload_n 3, 1)) (by decide +kernel : decode cL_law 795 = .ok (.iconst 1, 1)) (by decide) (by decide +kernel : decode cL_law 796 = .ok (.iadd, 1)) (by decide +kernel : decode cL_law 797 = .ok (.iaload, 1)) (rfl : 793 + 5 = 798)]
  rw [l_arg 2 (by omega) hL hj (by decide +kernel : decode cL_law 798 = .ok (.aload_n 0, 1)) (by decide +kernel : decode cL_law 799 = .ok (.iload_n 3, 1)) (by decide +kernel : decode cL_law 800 = .ok (.iconst 2, 1)) (by decide) (by decide +kernel : decode cL_law 801 = .ok (.iadd, 1)) (by decide +kernel : decode cL_law 802 = .ok (.iaload, 1)) (rfl : 798 + 5 = 803)]
  rw [l_arg 3 (by omega) hL hj (by decide +kernel : decode cL_law 803 = .ok (.aload_n 0, 1)) (by decide +kernel : decode cL_law 804 = .ok (.iload_n 3, 1)) (by decide +kernel : decode cL_law 805 = .ok (.iconst 3, 1)) (by decide) (by decide +kernel : decode cL_law 806 = .ok (.iadd, 1)) (by decide +kernel : decode cL_law 807 = .ok (.iaload, 1)) (rfl : 803 + 5 = 808)]
  rw [l_invX [.int (xs (j + 1)), .int (xs (j + 2)), .int (xs (j + 3))] (st' := [.int (xs (j + 3)), .int (xs (j + 2)), .int (xs (j + 1)), .ref 0]) (by decide +kernel : decode cL_law 808 = .ok (.invokevirtual 92, 3)) zm_RL_92 rfl rfl (rfl : 808 + 3 = 811)]
  refine zCall_mono _ _ _ _ _ _ _ (fun v σ1 h1 => ?_) (J_history h (xs (j + 1)) (xs (j + 2)) (xs (j + 3)))
  rw [l_al2 (by decide +kernel : decode cL_law 811 = .ok (.aload_n 2, 1)) (rfl : 811 + 1 = 812)]
  rw [l_arg 1 (by omega) hL hj (by decide +kernel : decode cL_law 812 = .ok (.aload_n 0, 1)) (by decide +kernel : decode cL_law 813 = .ok (.iload_n 3, 1)) (by decide +kernel : decode cL_law 814 = .ok (.iconst 1, 1)) (by decide) (by decide +kernel : decode cL_law 815 = .ok (.iadd, 1)) (by decide +kernel : decode cL_law 816 = .ok (.iaload, 1)) (rfl : 812 + 5 = 817)]
  rw [l_arg 2 (by omega) hL hj (by decide +kernel : decode cL_law 817 = .ok (.aload_n 0, 1)) (by decide +kernel : decode cL_law 818 = .ok (.iload_n 3, 1)) (by decide +kernel : decode cL_law 819 = .ok (.iconst 2, 1)) (by decide) (by decide +kernel : decode cL_law 820 = .ok (.iadd, 1)) (by decide +kernel : decode cL_law 821 = .ok (.iaload, 1)) (rfl : 817 + 5 = 822)]
  rw [l_arg 3 (by omega) hL hj (by decide +kernel : decode cL_law 822 = .ok (.aload_n 0, 1)) (by decide +kernel : decode cL_law 823 = .ok (.iload_n 3, 1)) (by decide +kernel : decode cL_law 824 = .ok (.iconst 3, 1)) (by decide) (by decide +kernel : decode cL_law 825 = .ok (.iadd, 1)) (by decide +kernel : decode cL_law 826 = .ok (.iaload, 1)) (rfl : 822 + 5 = 827)]
  rw [l_invM [.int (xs (j + 1)), .int (xs (j + 2)), .int (xs (j + 3))] (st' := .int (xs (j + 3)) :: .int (xs (j + 2)) :: .int (xs (j + 1)) :: .ref 28 :: (v.toList ++ [])) (by decide +kernel : decode cL_law 827 = .ok (.invokevirtual 95, 3)) zm_RL_95 rfl rfl (rfl : 827 + 3 = 830)]
  refine zCall_mono _ _ _ _ _ _ _ (fun v2 σ2 h2 => ?_) h1
  obtain ⟨r, rfl, rfl, hR⟩ := h2
  exact l_eq (by decide +kernel : decode cL_law 830 = .ok (.if_icmp .eq 88, 3)) (by decide) (ih _ (Rel_wk hR (by omega)))
theorem law_19 (hL : L ≤ 3072) (hj : j + 6 ≤ L) (h : Rel (10 * j) σ) (ih : ∀ σ, Rel (10 * (j + 6)) σ → eL L xs Q 18 (lj (j + 6)) [] σ) : eL L xs Q 835 (lj j) [] σ := by
  rw [l_al1 (by decide +kernel : decode cL_law 835 = .ok (.aload_n 1, 1)) (rfl : 835 + 1 = 836)]
  rw [l_invX [] (st' := [.ref 0]) (by decide +kernel : decode cL_law 836 = .ok (.invokevirtual 96, 3)) zm_RL_96 rfl rfl (rfl : 836 + 3 = 839)]
  refine zCall_mono _ _ _ _ _ _ _ (fun v σ1 h1 => ?_) (J_seen h)
  rw [l_al2 (by decide +kernel : decode cL_law 839 = .ok (.aload_n 2, 1)) (rfl : 839 + 1 = 840)]
  rw [l_invM [] (st' := .ref 28 :: (v.toList ++ [])) (by decide +kernel : decode cL_law 840 = .ok (.invokevirtual 99, 3)) zm_RL_99 rfl rfl (rfl : 840 + 3 = 843)]
  refine zCall_mono _ _ _ _ _ _ _ (fun v2 σ2 h2 => ?_) h1
  obtain ⟨r, rfl, rfl, hR⟩ := h2
  exact l_eq (by decide +kernel : decode cL_law 843 = .ok (.if_icmp .eq 75, 3)) (by decide) (ih _ (Rel_wk hR (by omega)))
theorem law_20 (hL : L ≤ 3072) (hj : j + 6 ≤ L) (h : Rel (10 * j) σ) (ih : ∀ σ, Rel (10 * (j + 6)) σ → eL L xs Q 18 (lj (j + 6)) [] σ) : eL L xs Q 848 (lj j) [] σ := by
  rw [l_al1 (by decide +kernel : decode cL_law 848 = .ok (.aload_n 1, 1)) (rfl : 848 + 1 = 849)]
  rw [l_arg 1 (by omega) hL hj (by decide +kernel : decode cL_law 849 = .ok (.aload_n 0, 1)) (by decide +kernel : decode cL_law 850 = .ok (.iload_n 3, 1)) (by decide +kernel : decode cL_law 851 = .ok (.iconst 1, 1)) (by decide) (by decide +kernel : decode cL_law 852 = .ok (.iadd, 1)) (by decide +kernel : decode cL_law 853 = .ok (.iaload, 1)) (rfl : 849 + 5 = 854)]
  rw [l_arg 2 (by omega) hL hj (by decide +kernel : decode cL_law 854 = .ok (.aload_n 0, 1)) (by decide +kernel : decode cL_law 855 = .ok (.iload_n 3, 1)) (by decide +kernel : decode cL_law 856 = .ok (.iconst 2, 1)) (by decide) (by decide +kernel : decode cL_law 857 = .ok (.iadd, 1)) (by decide +kernel : decode cL_law 858 = .ok (.iaload, 1)) (rfl : 854 + 5 = 859)]
  rw [l_invX [.int (xs (j + 1)), .int (xs (j + 2))] (st' := [.int (xs (j + 2)), .int (xs (j + 1)), .ref 0]) (by decide +kernel : decode cL_law 859 = .ok (.invokevirtual 100, 3)) zm_RL_100 rfl rfl (rfl : 859 + 3 = 862)]
  refine zCall_mono _ _ _ _ _ _ _ (fun v σ1 h1 => ?_) (J_danger h (xs (j + 1)) (xs (j + 2)))
  rw [l_al2 (by decide +kernel : decode cL_law 862 = .ok (.aload_n 2, 1)) (rfl : 862 + 1 = 863)]
  rw [l_arg 1 (by omega) hL hj (by decide +kernel : decode cL_law 863 = .ok (.aload_n 0, 1)) (by decide +kernel : decode cL_law 864 = .ok (.iload_n 3, 1)) (by decide +kernel : decode cL_law 865 = .ok (.iconst 1, 1)) (by decide) (by decide +kernel : decode cL_law 866 = .ok (.iadd, 1)) (by decide +kernel : decode cL_law 867 = .ok (.iaload, 1)) (rfl : 863 + 5 = 868)]
  rw [l_arg 2 (by omega) hL hj (by decide +kernel : decode cL_law 868 = .ok (.aload_n 0, 1)) (by decide +kernel : decode cL_law 869 = .ok (.iload_n 3, 1)) (by decide +kernel : decode cL_law 870 = .ok (.iconst 2, 1)) (by decide) (by decide +kernel : decode cL_law 871 = .ok (.iadd, 1)) (by decide +kernel : decode cL_law 872 = .ok (.iaload, 1)) (rfl : 868 + 5 = 873)]
  rw [l_invM [.int (xs (j + 1)), .int (xs (j + 2))] (st' := .int (xs (j + 2)) :: .int (xs (j + 1)) :: .ref 28 :: (v.toList ++ [])) (by decide +kernel : decode cL_law 873 = .ok (.invokevirtual 103, 3)) zm_RL_103 rfl rfl (rfl : 873 + 3 = 876)]
  refine zCall_mono _ _ _ _ _ _ _ (fun v2 σ2 h2 => ?_) h1
  obtain ⟨r, rfl, rfl, hR⟩ := h2
  exact l_eq (by decide +kernel : decode cL_law 876 = .ok (.if_icmp .eq 42, 3)) (by decide) (ih _ (Rel_wk hR (by omega)))
theorem law_21 (hL : L ≤ 3072) (hj : j + 6 ≤ L) (h : Rel (10 * j) σ) (ih : ∀ σ, Rel (10 * (j + 6)) σ → eL L xs Q 18 (lj (j + 6)) [] σ) : eL L xs Q 881 (lj j) [] σ := by
  rw [l_al1 (by decide +kernel : decode cL_law 881 = .ok (.aload_n 1, 1)) (rfl : 881 + 1 = 882)]
  rw [l_arg 1 (by omega) hL hj (by decide +kernel : decode cL_law 882 = .ok (.aload_n 0, 1)) (by decide +kernel : decode cL_law 883 = .ok (.iload_n 3, 1)) (by decide +kernel : decode cL_law 884 = .ok (.iconst 1, 1)) (by decide) (by decide +kernel : decode cL_law 885 = .ok (.iadd, 1)) (by decide +kernel : decode cL_law 886 = .ok (.iaload, 1)) (rfl : 882 + 5 = 887)]
  rw [l_invX [.int (xs (j + 1))] (st' := [.int (xs (j + 1)), .ref 0]) (by decide +kernel : decode cL_law 887 = .ok (.invokevirtual 104, 3)) zm_RL_104 rfl rfl (rfl : 887 + 3 = 890)]
  refine zCall_mono _ _ _ _ _ _ _ (fun v σ1 h1 => ?_) (J_count h (xs (j + 1)))
  rw [l_al2 (by decide +kernel : decode cL_law 890 = .ok (.aload_n 2, 1)) (rfl : 890 + 1 = 891)]
  rw [l_arg 1 (by omega) hL hj (by decide +kernel : decode cL_law 891 = .ok (.aload_n 0, 1)) (by decide +kernel : decode cL_law 892 = .ok (.iload_n 3, 1)) (by decide +kernel : decode cL_law 893 = .ok (.iconst 1, 1)) (by decide) (by decide +kernel : decode cL_law 894 = .ok (.iadd, 1)) (by decide +kernel : decode cL_law 895 = .ok (.iaload, 1)) (rfl : 891 + 5 = 896)]
  rw [l_invM [.int (xs (j + 1))] (st' := .int (xs (j + 1)) :: .ref 28 :: (v.toList ++ [])) (by decide +kernel : decode cL_law 896 = .ok (.invokevirtual 107, 3)) zm_RL_107 rfl rfl (rfl : 896 + 3 = 899)]
  refine zCall_mono _ _ _ _ _ _ _ (fun v2 σ2 h2 => ?_) h1
  obtain ⟨r, rfl, rfl, hR⟩ := h2
  exact l_eq (by decide +kernel : decode cL_law 899 = .ok (.if_icmp .eq 19, 3)) (by decide) (ih _ (Rel_wk hR (by omega)))
theorem law_22 (hL : L ≤ 3072) (hj : j + 6 ≤ L) (h : Rel (10 * j) σ) (ih : ∀ σ, Rel (10 * (j + 6)) σ → eL L xs Q 18 (lj (j + 6)) [] σ) : eL L xs Q 904 (lj j) [] σ := by
  rw [l_al1 (by decide +kernel : decode cL_law 904 = .ok (.aload_n 1, 1)) (rfl : 904 + 1 = 905)]
  rw [l_invX [] (st' := [.ref 0]) (by decide +kernel : decode cL_law 905 = .ok (.invokevirtual 108, 3)) zm_RL_108 rfl rfl (rfl : 905 + 3 = 908)]
  refine zCall_mono _ _ _ _ _ _ _ (fun v σ1 h1 => ?_) (J_digest h)
  rw [l_al2 (by decide +kernel : decode cL_law 908 = .ok (.aload_n 2, 1)) (rfl : 908 + 1 = 909)]
  rw [l_invM [] (st' := .ref 28 :: (v.toList ++ [])) (by decide +kernel : decode cL_law 909 = .ok (.invokevirtual 112, 3)) zm_RL_112 rfl rfl (rfl : 909 + 3 = 912)]
  refine zCall_mono _ _ _ _ _ _ _ (fun v2 σ2 h2 => ?_) h1
  obtain ⟨r, rfl, rfl, hR⟩ := h2
  exact l_leq (by decide +kernel : decode cL_law 912 = .ok (.lcmp, 1)) (by decide +kernel : decode cL_law 913 = .ok (.ifCond .eq 5, 3)) (by decide) (ih _ (Rel_wk hR (by omega)))
theorem l_sw {x : Int32} (h : ∀ n : Nat, x.toInt = n → n < 23 → eL L xs Q ((#[140, 163, 232, 265, 298, 321, 344, 403, 416, 459, 492, 535, 614, 647, 670, 703, 736, 759, 792, 835, 848, 881, 904] : Array Nat).getD n 0) (lj j) [] σ) (hd : eL L xs Q 918 (lj j) [] σ) : eL L xs Q 33 (lj j) [.int x] σ := by
  unfold eL at h hd ⊢
  rw [q_tsw (t := 918) lMono (by decide +kernel : decode cL_law 33 = .ok (.tableswitch 885 0 22 #[107, 130, 199, 232, 265, 288, 311, 370, 383, 426, 459, 502, 581, 614, 637, 670, 703, 726, 759, 802, 815, 848, 871], 107)) (by decide)]
  refine ⟨fun _ => hd, fun g1 g2 => ?_⟩
  obtain ⟨n, hn⟩ : ∃ n : Nat, x.toInt = n := ⟨x.toInt.toNat, by omega⟩
  have hn2 : n < 23 := by omega
  have hh := h n hn hn2
  rw [hn] at *
  clear g1 g2 h hd hn
  have c9 : n = 0 ∨ n = 1 ∨ n = 2 ∨ n = 3 ∨ n = 4 ∨ n = 5 ∨ n = 6 ∨ n = 7 ∨ n = 8 ∨ n = 9 ∨ n = 10 ∨ n = 11 ∨ n = 12 ∨ n = 13 ∨ n = 14 ∨ n = 15 ∨ n = 16 ∨ n = 17 ∨ n = 18 ∨ n = 19 ∨ n = 20 ∨ n = 21 ∨ n = 22 := by omega
  rcases c9 with rfl | rfl | rfl | rfl | rfl | rfl | rfl | rfl | rfl | rfl | rfl | rfl | rfl | rfl | rfl | rfl | rfl | rfl | rfl | rfl | rfl | rfl | rfl
  · exact ⟨107, 140, by decide +kernel, by decide, hh⟩
  · exact ⟨130, 163, by decide +kernel, by decide, hh⟩
  · exact ⟨199, 232, by decide +kernel, by decide, hh⟩
  · exact ⟨232, 265, by decide +kernel, by decide, hh⟩
  · exact ⟨265, 298, by decide +kernel, by decide, hh⟩
  · exact ⟨288, 321, by decide +kernel, by decide, hh⟩
  · exact ⟨311, 344, by decide +kernel, by decide, hh⟩
  · exact ⟨370, 403, by decide +kernel, by decide, hh⟩
  · exact ⟨383, 416, by decide +kernel, by decide, hh⟩
  · exact ⟨426, 459, by decide +kernel, by decide, hh⟩
  · exact ⟨459, 492, by decide +kernel, by decide, hh⟩
  · exact ⟨502, 535, by decide +kernel, by decide, hh⟩
  · exact ⟨581, 614, by decide +kernel, by decide, hh⟩
  · exact ⟨614, 647, by decide +kernel, by decide, hh⟩
  · exact ⟨637, 670, by decide +kernel, by decide, hh⟩
  · exact ⟨670, 703, by decide +kernel, by decide, hh⟩
  · exact ⟨703, 736, by decide +kernel, by decide, hh⟩
  · exact ⟨726, 759, by decide +kernel, by decide, hh⟩
  · exact ⟨759, 792, by decide +kernel, by decide, hh⟩
  · exact ⟨802, 835, by decide +kernel, by decide, hh⟩
  · exact ⟨815, 848, by decide +kernel, by decide, hh⟩
  · exact ⟨848, 881, by decide +kernel, by decide, hh⟩
  · exact ⟨871, 904, by decide +kernel, by decide, hh⟩
theorem l_top (hL : L ≤ 3072) (hj : j ≤ 3072) (h1 : L < j + 6 → eL L xs Q 924 (lj j) [] σ) (h2 : j + 6 ≤ L → eL L xs Q 33 (lj j) [.int (xs j &&& 31)] σ) : eL L xs Q 18 (lj j) [] σ := by
  unfold eL at h1 h2 ⊢
  rw [q_iload_n (x := nI j) lMono (by decide +kernel : decode cL_law 18 = .ok (.iload_n 3, 1)) rfl, q_aload_n (x := 48) lMono (by decide +kernel : decode cL_law 19 = .ok (.aload_n 0, 1)) rfl, q_slen lMono (by decide +kernel : decode cL_law 20 = .ok (.arraylength, 1)) lU48 rfl, q_bipush (v := nI 6) lMono (by decide +kernel : decode cL_law 21 = .ok (.bipush 6, 2)) (by decide), q_isub lMono (by decide +kernel : decode cL_law 23 = .ok (.isub, 1)), q_icmp (t := 924) lMono (by decide +kernel : decode cL_law 24 = .ok (.if_icmp .gt 900, 3)) (by decide)]
  have e : zif .gt (nI j) (nI L - nI 6) = (L < j + 6) := by
    show (nI L - nI 6 < nI j) = _
    rw [Int32.lt_iff_toInt_lt, pk_sub_toInt (by omega) (by omega), nI_toInt (by omega)]
    exact propext ⟨fun q => by omega, fun q => by omega⟩
  rw [e]
  refine ⟨h1, fun q => ?_⟩
  have h3 := h2 (by omega)
  rw [q_aload_n (x := 48) lMono (by decide +kernel : decode cL_law 27 = .ok (.aload_n 0, 1)) rfl, q_iload_n (x := nI j) lMono (by decide +kernel : decode cL_law 28 = .ok (.iload_n 3, 1)) rfl, q_sld lMono (by decide +kernel : decode cL_law 29 = .ok (.iaload, 1)) lU48 rfl, vp_inE (by omega), nI_clamp (by omega)]
  refine ⟨by omega, ?_⟩
  rw [q_bipush (v := 31) lMono (by decide +kernel : decode cL_law 30 = .ok (.bipush 31, 2)) (by decide), q_iand lMono (by decide +kernel : decode cL_law 32 = .ok (.iand, 1))]
  exact h3
theorem law_loop (hL : L ≤ 3072) (hQ : ∀ σ, Q (some (.int 1)) σ) : ∀ n j σ, L + 6 ≤ n + j → j ≤ L → Rel (10 * j) σ → eL L xs Q 18 (lj j) [] σ := by
  have hend : ∀ j σ, eL L xs Q 924 (lj j) [] σ := by
    intro j σ
    unfold eL
    rw [q_iconst (v := 1) lMono (by decide +kernel : decode cL_law 924 = .ok (.iconst 1, 1)) (by decide), q_zret lMono (by decide +kernel : decode cL_law 925 = .ok (.ireturn, 1)) rfl]
    exact ⟨rfl, hQ σ⟩
  intro n
  induction n with
  | zero => intro j σ h1 h2 h; omega
  | succ n ih =>
    intro j σ h1 h2 h
    refine l_top hL (by omega) (fun _ => hend j σ) (fun hj => ?_)
    have i : ∀ σ, Rel (10 * (j + 6)) σ → eL L xs Q 18 (lj (j + 6)) [] σ := fun σ g => ih (j + 6) σ (by omega) (by omega) g
    refine l_sw (fun m _ hm => ?_) (by rw [l_918]; exact i σ (Rel_wk h (by omega)))
    have c9 : m = 0 ∨ m = 1 ∨ m = 2 ∨ m = 3 ∨ m = 4 ∨ m = 5 ∨ m = 6 ∨ m = 7 ∨ m = 8 ∨ m = 9 ∨ m = 10 ∨ m = 11 ∨ m = 12 ∨ m = 13 ∨ m = 14 ∨ m = 15 ∨ m = 16 ∨ m = 17 ∨ m = 18 ∨ m = 19 ∨ m = 20 ∨ m = 21 ∨ m = 22 := by omega
    rcases c9 with rfl | rfl | rfl | rfl | rfl | rfl | rfl | rfl | rfl | rfl | rfl | rfl | rfl | rfl | rfl | rfl | rfl | rfl | rfl | rfl | rfl | rfl | rfl
    · exact law_0 hL hj h i
    · exact law_1 hL hj h i
    · exact law_2 hL hj h i
    · exact law_3 hL hj h i
    · exact law_4 hL hj h i
    · exact law_5 hL hj h i
    · exact law_6 hL hj h i
    · exact law_7 hL hj h i
    · exact law_8 hL hj h i
    · exact law_9 hL hj h i
    · exact law_10 hL hj h i
    · exact law_11 hL hj h i
    · exact law_12 hL hj h i
    · exact law_13 hL hj h i
    · exact law_14 hL hj h i
    · exact law_15 hL hj h i
    · exact law_16 hL hj h i
    · exact law_17 hL hj h i
    · exact law_18 hL hj h i
    · exact law_19 hL hj h i
    · exact law_20 hL hj h i
    · exact law_21 hL hj h i
    · exact law_22 hL hj h i
end ZL2
