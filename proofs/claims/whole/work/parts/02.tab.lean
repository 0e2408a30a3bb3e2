/-! look-ups in the tables of links, and what a found row gives: words of lw_tbl -/
def zfG (own : String) (i : Nat) : Option (Nat × Nat × Bool × Bool) := (zfT.find? (fun e => e.1 == (own, i))).map (fun e => e.2)
def zmG (own : String) (i : Nat) : Option (MethodName × Nat × Nat) := (zmT.find? (fun e => e.1 == (own, i))).map (fun e => e.2)
def zcG (own : String) (i : Nat) : Option Int32 := (zcT.find? (fun e => e.1 == (own, i))).map (fun e => e.2)
def zlG (own : String) (i : Nat) : Option Int64 := (zlT.find? (fun e => e.1 == (own, i))).map (fun e => e.2)
def zTs : List Cond := lw_tbl.filter goodWord
def zisN : Cond → Bool
  | .fieldLinkNest _ _ _ _ _ _ => true
  | .methodLinkNest _ _ _ _ => true
  | _ => false
theorem zTs_good : GoodIn zTs zTs := fun w h => ⟨h, good_of_word (List.mem_filter.mp h).2⟩
theorem zTs_of {i : Nat} {w : Cond} (h : (decide (lw_tbl[i]? = some w) && goodWord w) = true) : w ∈ zTs := by
  simp only [Bool.and_eq_true, decide_eq_true_eq] at h
  exact List.mem_filter.mpr ⟨List.mem_of_getElem? h.1, h.2⟩
theorem zTn_of {i : Nat} {w : Cond} (h : decide (lw_tbl[i]? = some w) = true) : w ∈ lw_tbl := List.mem_of_getElem? (of_decide_eq_true h)
def zgw (i : Nat) (w : Cond) : Bool := decide (lw_tbl[i]? = some w) && goodWord w
def zfOk (e : (String × Nat) × Nat × Nat × Bool × Bool) (i : Nat) : Bool := match vwCl[e.2.1]? with
  | some (C, T, N) => decide (e.2.2.1 < N) && (if e.2.2.2.2 = true then decide (lw_tbl[i]? = some (.fieldLinkNest e.1.1 e.1.2 (T e.2.2.1).1 (T e.2.2.1).2.1 (T e.2.2.1).2.2.1 "ShootDown")) else zgw i (.fieldLink e.1.1 e.1.2 (T e.2.2.1).1 (T e.2.2.1).2.1 (T e.2.2.1).2.2.1)) && (!e.2.2.2.1 || (decide ((T e.2.2.1).2.2.1 = "I") && decide ((T e.2.2.1).2.2.2 = false)))
  | none => false
def zmOk (e : (String × Nat) × MethodName × Nat × Nat) (i : Nat × Nat × Nat × Nat) : Bool :=
  (decide (e.2.1.cls ≠ "java/lang/invoke/MethodHandle") && decide (e.2.1.cls ≠ "java/lang/invoke/VarHandle")) && (decide ((parseMethodDescriptor e.2.1.desc).map (fun d => d.parameters.length) = some e.2.2.1) && zgw i.2.2.2 (.initialized e.2.1.cls)) &&
  (match e.2.2.2 with
  | 0 => zgw i.1 (.methodLink e.1.1 e.1.2 e.2.1) && zgw i.2.1 (.instanceMethod e.2.1) && zgw i.2.2.1 (.selects e.2.1.cls e.2.1 e.2.1)
  | 1 => decide (lw_tbl[i.1]? = some (.methodLinkNest e.1.1 e.1.2 e.2.1 "ShootDown")) && zgw i.2.1 (.instanceMethod e.2.1) && zgw i.2.2.1 (.selects e.2.1.cls e.2.1 e.2.1)
  | 2 => zgw i.1 (.methodLink e.1.1 e.1.2 e.2.1) && zgw i.2.1 (.static e.2.1)
  | 3 => decide (e.2.1 = arraycopyName) && zgw i.1 (.methodLink e.1.1 e.1.2 arraycopyName) && zgw i.2.1 (.static arraycopyName) && zgw i.2.2.1 (.native arraycopyName)
  | 4 => decide (e.2.1 = Lib.Math.max.name) && zgw i.1 (.methodLink e.1.1 e.1.2 Lib.Math.max.name) && zgw i.2.1 (.static Lib.Math.max.name) && zgw i.2.2.1 (.code Lib.Math.max.name Lib.Math.max.code 2 (some .int))
  | _ => false)
def zkF (y : MethodName) (w : Cond) : Option (ByteArray × Nat × Option FieldType) := match w with
  | .code y' cc nL ret => if y' = y ∧ goodWord w = true ∧ plainName y.cls = true ∧ nL ≤ 16 then some (cc, nL, ret) else none
  | _ => none
theorem zfT_ok : (zfT.zip zfW).all (fun p => zfOk p.1 p.2) = true := by decide +kernel
theorem zmT_ok : (zmT.zip zmW).all (fun p => zmOk p.1 p.2) = true := by decide +kernel
def zkG (y : MethodName) : Option (ByteArray × Nat × Option FieldType) := lw_tbl.findSome? (zkF y)
theorem zcT_ok : (zcT.zip zcW).all (fun p => zgw p.2 (.constant p.1.1.1 p.1.1.2 p.1.2)) = true := by decide +kernel
theorem zlT_ok : (zlT.zip zlW).all (fun p => zgw p.2 (.constantLong p.1.1.1 p.1.1.2 p.1.2)) = true := by decide +kernel
theorem zzip {α β : Type} {l : List α} {r : List β} (hl : l.length ≤ r.length) {f : α × β → Bool} (h : (l.zip r).all f = true) {a : α} (ha : a ∈ l) : ∃ b, f (a, b) = true := by
  obtain ⟨i, hi⟩ := List.getElem?_of_mem ha
  have hlt : i < l.length := (List.getElem?_eq_some_iff.mp hi).1
  have h2 : (l.zip r)[i]? = some (a, r[i]'(Nat.lt_of_lt_of_le hlt hl)) := by
    rw [List.getElem?_zip_eq_some]
    exact ⟨hi, List.getElem?_eq_getElem _⟩
  exact ⟨_, List.all_eq_true.mp h _ (List.mem_of_getElem? h2)⟩
theorem zfind {κ α : Type} {l : List (κ × α)} {t : κ × α → Bool} {x : α} (h : (l.find? t).map (fun e => e.2) = some x) : ∃ k, t (k, x) = true ∧ (k, x) ∈ l := by
  cases hf : l.find? t with
  | none => rw [hf] at h; cases h
  | some e =>
    rw [hf] at h
    obtain ⟨k, y⟩ := e
    cases h
    exact ⟨k, List.find?_some hf, List.mem_of_find?_eq_some hf⟩
theorem zfG_ok {own : String} {idx : Nat} {x : Nat × Nat × Bool × Bool} (h : zfG own idx = some x) : ∃ i, zfOk ((own, idx), x) i = true := by
  obtain ⟨k, h1, h2⟩ := zfind h
  have hk : k = (own, idx) := by simpa using h1
  subst hk
  exact zzip (by decide +kernel) zfT_ok h2
theorem zmG_ok {own : String} {idx : Nat} {x : MethodName × Nat × Nat} (h : zmG own idx = some x) : ∃ i, zmOk ((own, idx), x) i = true := by
  obtain ⟨k, h1, h2⟩ := zfind h
  have hk : k = (own, idx) := by simpa using h1
  subst hk
  exact zzip (by decide +kernel) zmT_ok h2
theorem zkG_ok {y : MethodName} {cc : ByteArray} {nL : Nat} {ret : Option FieldType} (h : zkG y = some (cc, nL, ret)) : .code y cc nL ret ∈ zTs ∧ plainName y.cls = true ∧ nL ≤ 16 := by
  obtain ⟨w, h1, h2⟩ := List.exists_of_findSome?_eq_some h
  unfold zkF at h2
  split at h2
  · rename_i y' cc' nL' ret'
    split at h2
    · rename_i hy
      cases h2
      obtain ⟨hy, h3, h4, h5⟩ := hy
      subst hy
      exact ⟨List.mem_filter.mpr ⟨h1, h3⟩, h4, h5⟩
    · cases h2
  · cases h2
theorem zcG_ok {own : String} {idx : Nat} {x : Int32} (h : zcG own idx = some x) : .constant own idx x ∈ zTs := by
  obtain ⟨k, h1, h2⟩ := zfind h
  have hk : k = (own, idx) := by simpa using h1
  subst hk
  obtain ⟨i, hi⟩ := zzip (by decide +kernel) zcT_ok h2
  exact zTs_of hi
theorem zlG_ok {own : String} {idx : Nat} {x : Int64} (h : zlG own idx = some x) : .constantLong own idx x ∈ zTs := by
  obtain ⟨k, h1, h2⟩ := zfind h
  have hk : k = (own, idx) := by simpa using h1
  subst hk
  obtain ⟨i, hi⟩ := zzip (by decide +kernel) zlT_ok h2
  exact zTs_of hi
theorem zinX (c : Nat) (x : vw_C) (h : vwCl[c]? = some x) : ∀ w ∈ u_ws x.1 x.2.1 x.2.2, w ∈ zTs := by
  have key : (vwCl.all fun x => (u_ws x.1 x.2.1 x.2.2).all fun w => decide (w ∈ lw_tbl) && goodWord w) = true := by decide +kernel
  intro w hw
  have h2 := List.all_eq_true.mp (List.all_eq_true.mp key x (List.mem_of_getElem? h)) w hw
  simp only [Bool.and_eq_true, decide_eq_true_eq] at h2
  exact List.mem_filter.mpr h2
