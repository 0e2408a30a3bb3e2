/-! numbers, and what a state is: the parts of it, each over its cells (class 0..27, model 28..47) -/
theorem nI_ltE {a b : Nat} (ha : a < 2 ^ 31) (hb : b < 2 ^ 31) : (nI a < nI b) = (a < b) := propext (nI_ltI ha hb)
theorem nI_leE {a b : Nat} (ha : a < 2 ^ 31) (hb : b < 2 ^ 31) : (nI a ≤ nI b) = (a ≤ b) := propext (nI_leI ha hb)
theorem nI_eqE {a b : Nat} (ha : a < 2 ^ 31) (hb : b < 2 ^ 31) : (nI a = nI b) = (a = b) := propext (nI_eq ha hb)
theorem nI_nT {a : Nat} (h : a < 2 ^ 31) : (-nI a).toInt = -(a : Int) := sb_negT h
theorem nI_m {a k : Nat} (ha : a < 2 ^ 31) (hk : 0 < k) (hk2 : k < 2 ^ 31) : (nI a = -nI k) = False := eq_false (fun e => by
  have h := congrArg Int32.toInt e
  rw [nI_toInt ha, nI_nT hk2] at h
  omega)
theorem nI_m' {a k : Nat} (ha : a < 2 ^ 31) (hk : 0 < k) (hk2 : k < 2 ^ 31) : (-nI k = nI a) = False := eq_false (fun e => by
  have h := congrArg Int32.toInt e
  rw [nI_toInt ha, nI_nT hk2] at h
  omega)
theorem nI_lt0 {a : Nat} (ha : a < 2 ^ 31) : (nI a < nI 0) = False := eq_false (by rw [nI_ltE ha (by omega)]; omega)
theorem vp_inE {a n : Nat} (ha : a < 2 ^ 31) : vp_in (nI a) n = (a < n) := propext ⟨fun h => by
  have := Nat.not_le.mp (fun q => h (Or.inr q))
  rwa [nI_clamp ha] at this, fun h => by
  intro q
  rcases q with q | q
  · rw [Int32.lt_iff_toInt_lt, nI_toInt ha, Int32.toInt_zero] at q; omega
  · rw [nI_clamp ha] at q; omega⟩
theorem zc3 (x : Nat) : 3 * x = x * 3 := Nat.mul_comm 3 x
theorem zc4 (x : Nat) : 4 * x = x * 4 := Nat.mul_comm 4 x
theorem zc5 (x : Nat) : 5 * x = x * 5 := Nat.mul_comm 5 x
theorem zc16 (x : Nat) : 16 * x = x * 16 := Nat.mul_comm 16 x
theorem zc20 (x : Nat) : 20 * x = x * 20 := Nat.mul_comm 20 x
theorem zc40 (x : Nat) : 40 * x = x * 40 := Nat.mul_comm 40 x
theorem zput_ne {σ : zV} {a k b : Nat} {x : Int32} (h : b ≠ a) : zput σ a k x b = σ b := zput_off b h
theorem zput_in {σ : zV} {a k j : Nat} {x : Int32} : zput σ a k x a j = if j = k then x else σ a j := by rw [zput_at]; rfl
theorem zput_ii {σ : zV} {a k : Nat} {x : Int32} : zput σ a k x a k = x := by rw [zput_in, if_pos rfl]
theorem zput_in' {σ : zV} {a k j : Nat} {x : Int32} (h : j ≠ k) : zput σ a k x a j = σ a j := by rw [zput_in, if_neg h]
/-- nothing but these cells has changed -/
def zoff (L : List Nat) (σ σ' : zV) : Prop := ∀ k, k ∉ L → σ' k = σ k
theorem zoff_rf {L : List Nat} {σ : zV} : zoff L σ σ := fun _ _ => rfl
theorem zoff_tr {L : List Nat} {σ σ1 σ2 : zV} (h : zoff L σ σ1) (g : zoff L σ1 σ2) : zoff L σ σ2 := fun k hk => (g k hk).trans (h k hk)
theorem zoff_wk {L L' : List Nat} {σ σ1 : zV} (h : zoff L σ σ1) (g : ∀ k ∈ L, k ∈ L') : zoff L' σ σ1 := fun k hk => h k (fun q => hk (g k q))
theorem zoff_put {L : List Nat} {σ : zV} {a k : Nat} {x : Int32} (h : a ∈ L) : zoff L σ (zput σ a k x) := fun b hb => zput_off b (fun e => hb (e ▸ h))
theorem zoff_up {L : List Nat} {σ : zV} {a : Nat} {f : Nat → Int32} (h : a ∈ L) : zoff L σ (va_up σ a f) := fun b hb => by
  simp [va_up, show b ≠ a from fun e => hb (e ▸ h)]
def zg {α : Type} (l : List α) (k : Nat) (x : α) : α := l.getD k x
theorem zg_mem {α : Type} {l : List α} {k : Nat} {x : α} (h : k < l.length) : zg l k x ∈ l := by
  unfold zg
  rw [List.getD_eq_getElem?_getD, List.getElem?_eq_getElem h]
  exact List.getElem_mem h
theorem zg_some {α : Type} {l : List α} {k : Nat} {x : α} (h : k < l.length) : l[k]? = some (zg l k x) := by
  unfold zg
  rw [List.getD_eq_getElem?_getD, List.getElem?_eq_getElem h]
  rfl
theorem zg_of {α : Type} {l : List α} {k : Nat} {x y : α} (h : l[k]? = some y) : zg l k x = y := by
  unfold zg
  rw [List.getD_eq_getElem?_getD, h]
  rfl
theorem zg_of_mem {α : Type} {l : List α} {x y : α} (h : y ∈ l) : ∃ k, k < l.length ∧ zg l k x = y := by
  obtain ⟨k, hk⟩ := List.getElem?_of_mem h
  exact ⟨k, (List.getElem?_eq_some_iff.mp hk).1, zg_of hk⟩
theorem zg_apl {α : Type} {l r : List α} {k : Nat} {x : α} (h : k < l.length) : zg (l ++ r) k x = zg l k x := zg_of (by rw [List.getElem?_append_left h]; exact zg_some h)
theorem zg_apr {α : Type} {l r : List α} {k : Nat} {x : α} (h : l.length ≤ k) (h2 : k < l.length + r.length) : zg (l ++ r) k x = zg r (k - l.length) x := zg_of (by rw [List.getElem?_append_right h]; exact zg_some (by omega))
theorem zg_last {α : Type} {l : List α} {x y : α} : zg (l ++ [y]) l.length x = y := zg_of (by simp)
theorem zg_tail {α : Type} {l : List α} {k : Nat} {x : α} (h : k + 1 < l.length) : zg l.tail k x = zg l (k + 1) x := zg_of (by rw [List.getElem?_tail]; exact zg_some h)
theorem zg_ext {α : Type} {l r : List α} {x : α} (hl : l.length = r.length) (h : ∀ k, k < l.length → zg l k x = zg r k x) : l = r := by
  apply List.ext_getElem?
  intro k
  by_cases hk : k < l.length
  · rw [zg_some (x := x) hk, zg_some (x := x) (show k < r.length by omega), h k hk]
  · rw [List.getElem?_eq_none (by omega), List.getElem?_eq_none (by omega)]
abbrev zNote : Type := Nat × Nat × Nat × Int32
abbrev zSh : Type := Nat × Nat × Int32 × Nat × Int32 × Int32 × (Nat → Bool)
def zn0 : zNote := (0, 0, 0, 0)
def zs0 : zSh := (0, 0, 0, 0, 0, 0, fun _ => false)
def zh0 : Nat × Int32 := (0, 0)
/-- an entry as entry() tells it; the model's numbers: 0, 256 and the frame, 768 and the frame -/
def zt (e : Nat) : Int32 := if e = 0 then -nI 1 else if 768 ≤ e then nI (e - 512) else nI (e - 256)
def zvE (e : Nat) : Prop := e = 0 ∨ (256 ≤ e ∧ e < 512) ∨ (768 ≤ e ∧ e < 1024)
def zb (x : Bool) : Int32 := if x = true then nI 1 else nI 0
theorem zt_0 : zt 0 = -nI 1 := rfl
theorem zt_none {e : Nat} (h : zvE e) : (zt e = -nI 1) = (e = 0) := by
  rcases h with rfl | h | h
  · simp [zt]
  · rw [zt, if_neg (by omega), if_neg (by omega), nI_m (by omega) (by omega) (by omega)]
    exact (eq_false (by omega)).symm
  · rw [zt, if_neg (by omega), if_pos (by omega), nI_m (by omega) (by omega) (by omega)]
    exact (eq_false (by omega)).symm
theorem zt_cases {e : Nat} (h : zvE e) : (e = 0 ∧ zt e = -nI 1) ∨ (256 ≤ e ∧ e < 512 ∧ zt e = nI (e - 256)) ∨ (768 ≤ e ∧ e < 1024 ∧ zt e = nI (e - 512)) := by
  rcases h with rfl | h | h
  · exact Or.inl ⟨rfl, rfl⟩
  · exact Or.inr (Or.inl ⟨h.1, h.2, by rw [zt, if_neg (by omega), if_neg (by omega)]⟩)
  · exact Or.inr (Or.inr ⟨h.1, h.2, by rw [zt, if_neg (by omega), if_pos (by omega)]⟩)
theorem zt_inj {e e' : Nat} (h : zvE e) (h' : zvE e') : (zt e = zt e') = (e = e') := by
  refine propext ⟨fun q => ?_, fun q => by rw [q]⟩
  rcases zt_cases h with ⟨h1, h2⟩ | ⟨h1, h2, h3⟩ | ⟨h1, h2, h3⟩ <;> rcases zt_cases h' with ⟨g1, g2⟩ | ⟨g1, g2, g3⟩ | ⟨g1, g2, g3⟩
  · rw [h1, g1]
  · rw [h2, g3, nI_m' (by omega) (by omega) (by omega)] at q; exact q.elim
  · rw [h2, g3, nI_m' (by omega) (by omega) (by omega)] at q; exact q.elim
  · rw [h3, g2, nI_m (by omega) (by omega) (by omega)] at q; exact q.elim
  · rw [h3, g3, nI_eqE (by omega) (by omega)] at q; omega
  · rw [h3, g3, nI_eqE (by omega) (by omega)] at q; omega
  · rw [h3, g2, nI_m (by omega) (by omega) (by omega)] at q; exact q.elim
  · rw [h3, g3, nI_eqE (by omega) (by omega)] at q; omega
  · rw [h3, g3, nI_eqE (by omega) (by omega)] at q; omega
theorem zt_w {e : Nat} (h : zvE e) : (nI 256 ≤ zt e) = (768 ≤ e) := by
  rcases zt_cases h with ⟨h1, h2⟩ | ⟨h1, h2, h3⟩ | ⟨h1, h2, h3⟩
  · rw [h2, h1]
    exact propext ⟨fun q => absurd q (by decide), fun q => absurd q (by omega)⟩
  · rw [h3, nI_leE (by omega) (by omega)]; exact propext ⟨fun q => by omega, fun q => by omega⟩
  · rw [h3, nI_leE (by omega) (by omega)]; exact propext ⟨fun q => by omega, fun q => by omega⟩
-- the class
def XC (nc : Nat) (σ : zV) : Prop := σ 0 5 = nI nc
def XT (sc : Nat → Int32) (σ : zV) : Prop := σ 0 6 = sc 1 ∧ σ 0 7 = sc 2 ∧ σ 0 8 = sc 3 ∧ σ 0 9 = sc 4 ∧ σ 0 10 = sc 5 ∧ σ 0 11 = sc 6 ∧ σ 0 12 = sc 7 ∧ σ 0 13 = sc 8 ∧ σ 0 14 = sc 9
def XG (gen : Nat → Nat) (σ : zV) : Prop := ∀ s, s < 3 → σ 2 s = nI (gen s)
def XHr (l : List (Nat × Int32)) (p : Nat) (σ : zV) : Prop := σ 3 p = nI l.length ∧ ∀ k, k < l.length → σ 4 (p * 20 + k) = zt (zg l k zh0).1 ∧ σ 5 (p * 20 + k) = (zg l k zh0).2
def XH (hist : Nat → List (Nat × Int32)) (σ : zV) : Prop := ∀ p, p < 48 → XHr (hist p) p σ
def XK (sp : Nat → Nat) (aw : Nat → Bool) (σ : zV) : Prop := ∀ c, c < 4 → σ 7 c = nI (sp c) ∧ σ 8 c = zb (aw c)
def XF (fg : Nat → Nat) (σ : zV) : Prop := ∀ i, i < 12 → σ 10 i = nI (fg i)
def XR (n : zNote) (i : Nat) (σ : zV) : Prop := σ 13 i = nI n.1 ∧ σ 14 i = nI n.2.1 ∧ σ 15 i = zt n.2.2.1 ∧ σ 16 i = n.2.2.2
def XN (notes : Nat → List zNote) (σ : zV) : Prop := ∀ c, c < 4 → σ 12 c = nI (notes c).length ∧ ∀ k, k < (notes c).length → XR (zg (notes c) k zn0) (c * 4 + k) σ
def XQ (que : Nat → List Nat) (σ : zV) : Prop := ∀ c, c < 4 → σ 18 c = nI (que c).length ∧ ∀ k, k < (que c).length → σ 19 (c * 40 + k) = nI (zg (que c) k 0)
def zmask (w : Nat → Bool) : Nat := (if w 0 = true then 1 else 0) + (if w 1 = true then 2 else 0) + (if w 2 = true then 4 else 0) + (if w 3 = true then 8 else 0)
def XSr (r : zSh) (k : Nat) (σ : zV) : Prop := σ 21 k = nI r.1 ∧ σ 22 k = nI r.2.1 ∧ σ 23 k = r.2.2.1 ∧ σ 24 k = nI r.2.2.2.1 ∧ σ 25 k = r.2.2.2.2.1 ∧ σ 26 k = r.2.2.2.2.2.1 ∧ σ 27 k = nI (zmask r.2.2.2.2.2.2)
def XS (sh : List zSh) (σ : zV) : Prop := σ 20 0 = nI sh.length ∧ ∀ k, k < sh.length → XSr (zg sh k zs0) k σ
/-- the first place below n -/
def zfst (p : Nat → Bool) (n : Nat) : Option Nat := (List.range n).find? p
theorem zfst_some {p : Nat → Bool} {n k : Nat} (h : ∀ j, j < k → p j = false) (hk : k < n) (hp : p k = true) : zfst p n = some k := by
  unfold zfst
  rw [List.find?_range_eq_some]
  exact ⟨hp, by simpa using hk, fun j hj => by simp [h j hj]⟩
theorem zfst_none {p : Nat → Bool} {n : Nat} (h : ∀ j, j < n → p j = false) : zfst p n = none := by
  unfold zfst
  rw [List.find?_eq_none]
  intro x hx
  simp [h x (List.mem_range.mp hx)]
theorem zfst_of {p : Nat → Bool} {n : Nat} : (zfst p n = none ∧ ∀ j, j < n → p j = false) ∨ ∃ k, zfst p n = some k ∧ k < n ∧ p k = true ∧ ∀ j, j < k → p j = false := by
  cases h : zfst p n with
  | none =>
    refine Or.inl ⟨rfl, fun j hj => ?_⟩
    unfold zfst at h
    rw [List.find?_eq_none] at h
    simpa using h j (List.mem_range.mpr hj)
  | some k =>
    unfold zfst at h
    rw [List.find?_range_eq_some] at h
    exact Or.inr ⟨k, rfl, by simpa using h.2.1, h.1, fun j hj => by simpa using h.2.2 j hj⟩
def zcode (o : Option Nat) : Int32 := match o with
  | some k => nI k
  | none => -nI 1
/-- the shoot that a core has under way: the first of its own that isn't done -/
def zund (sh : List zSh) (c : Nat) : Int32 := zcode (zfst (fun k => decide ((zg sh k zs0).1 = c) && decide ((zg sh k zs0).2.2.2.2.2.1 = -nI 1)) sh.length)
def XU (sh : List zSh) (σ : zV) : Prop := ∀ c, c < 4 → σ 9 c = zund sh c
-- the model
def MC (nc : Nat) (σ : zV) : Prop := σ 28 0 = nI nc
def MT (sc : Nat → Int32) (σ : zV) : Prop := σ 28 1 = sc 1 ∧ σ 28 3 = sc 2 ∧ σ 28 2 = sc 3 ∧ σ 28 24 = sc 4 ∧ σ 28 25 = sc 5 ∧ σ 28 26 = sc 6 ∧ σ 28 27 = sc 7 ∧ σ 28 28 = sc 8 ∧ σ 28 29 = sc 9
def MG (gen : Nat → Nat) (σ : zV) : Prop := ∀ s, s < 3 → σ 30 s = nI (gen s)
def MHr (l : List (Nat × Int32)) (p : Nat) (σ : zV) : Prop := σ 31 p = nI l.length ∧ (∀ k, k < l.length → σ 33 (p * 20 + k) = nI (zg l k zh0).1 ∧ σ 32 (p * 20 + k) = (zg l k zh0).2) ∧ σ 29 p = nI (zg l (l.length - 1) zh0).1
def MH (hist : Nat → List (Nat × Int32)) (σ : zV) : Prop := ∀ p, p < 48 → MHr (hist p) p σ
def MK (sp : Nat → Nat) (aw : Nat → Bool) (σ : zV) : Prop := ∀ c, c < 4 → σ 34 c = nI (sp c) ∧ σ 35 c = zb (aw c)
def MF (fg : Nat → Nat) (σ : zV) : Prop := ∀ i, i < 12 → σ 40 i = nI (fg i)
def MR (n : zNote) (i : Nat) (σ : zV) : Prop := σ 37 i = nI n.1 ∧ σ 37 (i + 1) = nI n.2.1 ∧ σ 37 (i + 2) = nI n.2.2.1 ∧ σ 37 (i + 3) = n.2.2.2
def MN (notes : Nat → List zNote) (σ : zV) : Prop := ∀ c, c < 4 → σ 36 c = nI (notes c).length ∧ ∀ k, k < (notes c).length → MR (zg (notes c) k zn0) (c * 20 + k * 5) σ
def MQu (que : Nat → List Nat) (σ : zV) : Prop := ∀ c, c < 4 → σ 38 c = nI (que c).length ∧ ∀ k, k < (que c).length → σ 39 (c * 40 + k) = nI (zg (que c) k 0)
def MSr (r : zSh) (k : Nat) (σ : zV) : Prop := σ 41 k = nI r.1 ∧ σ 42 k = nI r.2.1 ∧ σ 43 k = r.2.2.1 ∧ σ 44 k = nI r.2.2.2.1 ∧ σ 45 k = r.2.2.2.2.1 ∧ σ 46 k = r.2.2.2.2.2.1 ∧ ∀ c, c < 4 → σ 47 (k * 4 + c) = zb (r.2.2.2.2.2.2 c)
def MS (sh : List zSh) (σ : zV) : Prop := σ 28 16 = nI sh.length ∧ ∀ k, k < sh.length → MSr (zg sh k zs0) k σ
-- what is always so
def zIH (hist : Nat → List (Nat × Int32)) : Prop := ∀ p, p < 48 → 1 ≤ (hist p).length ∧ (hist p).length ≤ 20 ∧ ∀ x ∈ hist p, zvE x.1
def zIK (sp : Nat → Nat) : Prop := ∀ c, c < 4 → sp c < 3
def zIN (notes : Nat → List zNote) : Prop := ∀ c, c < 4 → (notes c).length ≤ 4 ∧ (∀ n ∈ notes c, n.1 < 3 ∧ n.2.1 < 16 ∧ zvE n.2.2.1 ∧ n.2.2.1 ≠ 0) ∧ (notes c).Pairwise (fun a b => ¬ (a.1 = b.1 ∧ a.2.1 = b.2.1))
def zIQ (nc : Nat) (que : Nat → List Nat) (sh : List zSh) : Prop := ∀ c, c < 4 → (que c).Pairwise (· < ·) ∧ (∀ k ∈ que c, k < sh.length) ∧ ∀ k, k < sh.length → ((zg sh k zs0).2.2.2.2.2.2 c = true ↔ k ∈ que c) ∧ (nc ≤ c → (zg sh k zs0).2.2.2.2.2.2 c = false)
def zpg (p : Int32) : Prop := p = -nI 1 ∨ ∃ k, k < 16 ∧ p = nI k
def zIS (nc : Nat) (sh : List zSh) : Prop := sh.length ≤ 40 ∧ (∀ r ∈ sh, r.1 < nc ∧ r.2.1 < 3 ∧ zpg r.2.2.1 ∧ r.2.2.2.1 ≤ 40 ∧ (r.2.2.2.2.2.1 = -nI 1 ↔ ∃ c, c < 4 ∧ r.2.2.2.2.2.2 c = true)) ∧ ∀ i j, i < sh.length → j < sh.length → (zg sh i zs0).1 = (zg sh j zs0).1 → (zg sh i zs0).2.2.2.2.2.1 = -nI 1 → (zg sh j zs0).2.2.2.2.2.1 = -nI 1 → i = j
def zIG (gen fg : Nat → Nat) (sh : List zSh) : Prop := (∀ s, s < 3 → gen s ≤ sh.length) ∧ ∀ c s, c < 4 → s < 3 → fg (c * 3 + s) ≤ gen s
def zIT (n : Nat) (sc : Nat → Int32) : Prop := ∃ t, t ≤ n ∧ sc 1 = nI t
