/-! both sides: wasSo -/
def zsoB (l : List (Nat × Int32)) (e : Nat) (t : Int32) (i : Nat) : Bool := decide ((zg l i zh0).1 = e) && (decide (i = l.length - 1) || decide (t < (zg l (i + 1) zh0).2))
def zso (l : List (Nat × Int32)) (e : Nat) (t : Int32) : Bool := (zfst (zsoB l e t) l.length).isSome
theorem zso_f {l : List (Nat × Int32)} {e : Nat} {t : Int32} (h : ∀ j, j < l.length → zsoB l e t j = false) : zso l e t = false := by
  unfold zso
  rw [zfst_none h]
  rfl
theorem zso_t {l : List (Nat × Int32)} {e k : Nat} {t : Int32} (h : ∀ j, j < k → zsoB l e t j = false) (hk : k < l.length) (hp : zsoB l e t k = true) : zso l e t = true := by
  unfold zso
  rw [zfst_some h hk hp]
  rfl
theorem X_held {b : Bool} {d : Nat} {Q : zQ} {S : zSt} {σ : zV} {s p e n : Nat} {t : Int32} (h : RX S σ) (hI : zI n S) (hs : s < 3) (hp : p < 16) (he : zvE e) (hQ : Q (some (.int (zb (zso (sHi S (s * 16 + p)) e t)))) σ) : zCall (zUn b) (d + 3) yX4_heldFrom [.ref 1, .int (nI s), .int (nI p), .int (zt e), .int t] σ Q := by
  obtain ⟨a1, a2, a3, a4, a5⟩ := zX_now h hI hs hp
  obtain ⟨y1, y2⟩ := h.2.2.2.1 (s * 16 + p) (by omega)
  obtain ⟨i1, i2, i3⟩ := hI.1.2.2.1 (s * 16 + p) (by omega)
  have loop : ∀ m i (v : Value), v.category = 1 → m + i = (sHi S (s * 16 + p)).length → (∀ j, j < i → zsoB (sHi S (s * 16 + p)) e t j = false) → eX4_heldFrom b (d + 2) Q 17 [.ref 1, .int (nI s), .int (nI p), .int (zt e), .int t, .int (nI ((sHi S (s * 16 + p)).length - 1)), .int (nI i), v] [] σ := by
    intro m
    induction m with
    | zero =>
      intro i v hv hi hj
      rw [bX4_heldFrom_17 hv]
      rw [zso_f (fun j hjl => hj j (by omega))] at hQ
      refine ⟨fun _ => hQ, fun q => absurd ?_ q⟩
      rw [nI_ltE (by omega) (by omega)]; omega
    | succ m ih =>
      intro i v hv hi hj
      obtain ⟨w1, w2⟩ := y2 i (by omega)
      have zi := i3 _ (zg_mem (x := zh0) (show i < (sHi S (s * 16 + p)).length by omega))
      have nx : ∀ v', v'.category = 1 → zsoB (sHi S (s * 16 + p)) e t i = false → eX4_heldFrom b (d + 2) Q 17 [.ref 1, .int (nI s), .int (nI p), .int (zt e), .int t, .int (nI ((sHi S (s * 16 + p)).length - 1)), .int (nI (i + 1)), v'] [] σ := fun v' hv' q => ih (i + 1) v' hv' (by omega) (fun j hji => by
        rcases Nat.lt_or_ge j i with z | z
        · exact hj j z
        · rw [show j = i by omega]; exact q)
      have no : ¬ (zg (sHi S (s * 16 + p)) i zh0).1 = e → zsoB (sHi S (s * 16 + p)) e t i = false := fun q => by unfold zsoB; rw [decide_eq_false q]; rfl
      rw [bX4_heldFrom_17 hv]
      simp (disch := omega) only [pk_mul, nI_add, nI_clamp, nI_ltE, nI_leE, vp_inE, w1, zt_inj zi he]
      refine ⟨fun q => absurd q (by omega), fun _ => ⟨fun q => ⟨by omega, fun q2 => nx (.int (nI 0)) rfl (no q2), fun q2 => ?_⟩, fun q => ⟨by omega, ?_⟩⟩⟩
      · rw [zso_t hj (by omega) (by unfold zsoB; rw [decide_eq_true q2, decide_eq_true (show i = (sHi S (s * 16 + p)).length - 1 by omega)]; rfl)] at hQ
        exact hQ
      · have u2 := (y2 (i + 1) (by omega)).2
        rw [show (s * 16 + p) * 20 + (i + 1) = (s * 16 + p) * 20 + (i + 1) from rfl, u2]
        refine ⟨fun q3 => ⟨by omega, fun q2 => nx (.int (nI 0)) rfl (no q2), fun q2 => ?_⟩, fun q3 => nx (.int (nI 1)) rfl ?_⟩
        · rw [zso_t hj (by omega) (by unfold zsoB; rw [decide_eq_true q2, decide_eq_true q3]; simp)] at hQ
          exact hQ
        · unfold zsoB
          rw [decide_eq_false (show ¬ i = (sHi S (s * 16 + p)).length - 1 by omega), decide_eq_false q3]
          simp
  rw [nX4_heldFrom, bX4_heldFrom_0]
  simp (disch := omega) only [pk_mul, nI_add, nI_clamp, vp_inE, a1, pk_sub]
  exact ⟨by omega, loop _ 0 .null rfl rfl (fun j hj => absurd hj (by omega))⟩
theorem M_held {d : Nat} {Q : zQ} {S : zSt} {σ : zV} {c k n : Nat} (h : RM S σ) (hI : zI n S) (hc : c < 4) (hk : k < (sNo S c).length) (x1 x2 : Int32) (hQ : Q (some (.int (zb (zso (sHi S ((zg (sNo S c) k zn0).1 * 16 + (zg (sNo S c) k zn0).2.1)) (zg (sNo S c) k zn0).2.2.1 (zg (sNo S c) k zn0).2.2.2)))) σ) : eX6_wasSo (d + 3) Q 44 [.ref 28, .int x1, .int x2, .int (nI (c * 20 + k * 5)), .int (nI ((zg (sNo S c) k zn0).1 * 16 + (zg (sNo S c) k zn0).2.1)), .int (nI 0), .null] [] σ := by
  obtain ⟨g0, g1, g2, g3, g4⟩ := zno hI hc hk
  obtain ⟨n1, n2, n3, n4⟩ := (h.2.2.2.2.2.2.1 c hc).2 k hk
  generalize hm : zg (sNo S c) k zn0 = m0 at *
  generalize hpp : m0.1 * 16 + m0.2.1 = pp at *
  obtain ⟨y1, y2, _⟩ := h.2.2.2.1 pp (by omega)
  obtain ⟨i1, i2, i3⟩ := hI.1.2.2.1 pp (by omega)
  have l0 := zvE_lt g3
  have loop : ∀ m i (v : Value), v.category = 1 → m + i = (sHi S pp).length → (∀ j, j < i → zsoB (sHi S pp) m0.2.2.1 m0.2.2.2 j = false) → eX6_wasSo (d + 3) Q 44 [.ref 28, .int x1, .int x2, .int (nI (c * 20 + k * 5)), .int (nI pp), .int (nI i), v] [] σ := by
    intro m
    induction m with
    | zero =>
      intro i v hv hi hj
      rw [bX6_wasSo_44 hv]
      rw [zso_f (fun j hjl => hj j (by omega))] at hQ
      simp (disch := omega) only [nI_clamp, nI_leE, vp_inE, y1]
      exact ⟨by omega, fun _ => hQ, fun q => absurd (by omega) q⟩
    | succ m ih =>
      intro i v hv hi hj
      obtain ⟨w1, w2⟩ := y2 i (by omega)
      have zi := zvE_lt (i3 _ (zg_mem (x := zh0) (show i < (sHi S pp).length by omega)))
      have nx : ∀ v', v'.category = 1 → zsoB (sHi S pp) m0.2.2.1 m0.2.2.2 i = false → eX6_wasSo (d + 3) Q 44 [.ref 28, .int x1, .int x2, .int (nI (c * 20 + k * 5)), .int (nI pp), .int (nI (i + 1)), v'] [] σ := fun v' hv' q => ih (i + 1) v' hv' (by omega) (fun j hji => by
        rcases Nat.lt_or_ge j i with z | z
        · exact hj j z
        · rw [show j = i by omega]; exact q)
      have no : ¬ (zg (sHi S pp) i zh0).1 = m0.2.2.1 → zsoB (sHi S pp) m0.2.2.1 m0.2.2.2 i = false := fun q => by unfold zsoB; rw [decide_eq_false q]; rfl
      have e20 : nI 20 * nI pp = nI (pp * 20) := by rw [pk_mul, zc20]
      rw [bX6_wasSo_44 hv]
      simp (disch := omega) only [e20, nI_add, nI_clamp, nI_leE, nI_eqE, vp_inE, y1, pk_sub, w1, n3, n4]
      refine ⟨by omega, fun q => absurd q (by omega), fun _ => ⟨by omega, fun q => ⟨by omega, by omega, fun q2 => nx (.int (nI 1)) rfl (no q2), fun q2 => ?_⟩, fun q => ⟨by omega, by omega, ?_⟩⟩⟩
      · rw [zso_t hj (by omega) (by unfold zsoB; rw [decide_eq_true q2, decide_eq_true q]; rfl)] at hQ
        exact hQ
      · have u2 := (y2 (i + 1) (by omega)).2
        rw [show pp * 20 + i + 1 = pp * 20 + (i + 1) from rfl, u2]
        have nle : ((zg (sHi S pp) (i + 1) zh0).2 ≤ m0.2.2.2) = ¬ (m0.2.2.2 < (zg (sHi S pp) (i + 1) zh0).2) := by
          rw [Int32.lt_iff_toInt_lt, Int32.le_iff_toInt_le]
          exact propext ⟨fun a => by omega, fun a => by omega⟩
        rw [nle]
        have no2 : ¬ (m0.2.2.2 < (zg (sHi S pp) (i + 1) zh0).2) → zsoB (sHi S pp) m0.2.2.1 m0.2.2.2 i = false := fun q3 => by
          unfold zsoB
          rw [decide_eq_false q, decide_eq_false q3]
          simp
        refine ⟨fun q3 => ⟨by omega, by omega, fun _ => nx (.int (nI 0)) rfl (no2 q3), fun _ => nx (.int (nI 0)) rfl (no2 q3)⟩, fun q3 => ⟨by omega, by omega, fun q2 => nx (.int (nI 1)) rfl (no q2), fun q2 => ?_⟩⟩
        rw [zso_t hj (by omega) (by unfold zsoB; rw [decide_eq_true q2, decide_eq_true (Classical.not_not.mp q3)]; simp)] at hQ
        exact hQ
  exact loop _ 0 .null rfl rfl (fun j hj => absurd hj (by omega))
