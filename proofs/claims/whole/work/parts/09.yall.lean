/-! the reference fills its tables -/
section
variable {z : Int32} {K L M X fr tu kf kt pn : Nat → Int32} {lv kd : Nat → Nat} {mn : Nat → Int32} {T : Nat → Nat} {m0 : Nat}
theorem my_ra12 {R : Nat → Int32} (hG : mx_G lv kd mn K L M) {post : Int32 → SY → Prop} {J : Int32 → Int32 → Int32 → (Nat → Int32) → (Nat → Int32) → (Nat → Int32) → (Nat → Int32) → (Nat → Int32) → (Nat → Int32) → (Nat → Int32) → (Nat → Int32) → (Nat → Int32) → (Nat → Int32) → (Nat → Int32) → (Nat → Int32) → (Nat → Int32) → Prop}
    {w : Nat} (hw : 0 < w) (hw2 : w ≤ m0) (h16 : m0 ≤ 16) (hA : mx_A R T m0)
    (HJ : ∀ s v o, mx_P lv kd mn T m0 (-2) s v o (w + 1) 0 → J (nI (w + 1)) z (nI m0) K L M X R s v o fr tu kf kt pn) :
    ∀ d i s v o, i + d + w = m0 + 1 → mx_P lv kd mn T m0 (-2) s v o w i → wY_readAll_12 post J (nI w) (d + 1) (nI i) z (nI m0) K L M X R s v o fr tu kf kt pn := by
  intro d
  induction d with
  | zero =>
    intro i s v o hi hP
    exact br_t (by rw [nI_add]; exact nI_lt (by omega) (by omega)) (nm_r (nI_1 w) (HJ s v o (mx_P2 (i := i) (by omega) hP)))
  | succ d ih =>
    intro i s v o hi hP
    refine br_f (by rw [nI_add]; exact nI_nlt (by omega) (by omega)) (my_rst hG (nI_add i w) (by omega) (by omega) h16 hA (fun s' v' o' u1 u2 u3 hC => nm_r (nI_1 i) (ih (i + 1) s' v' o' (by omega) ?_)))
    exact mx_P1 h16 hw (by omega) hP u1 u2 u3 hC
theorem my_ra2 {R : Nat → Int32} (hG : mx_G lv kd mn K L M) {post : Int32 → SY → Prop} (h16 : m0 ≤ 16) (hA : mx_A R T m0)
    (H : ∀ s v o, mx_T lv kd mn T m0 (-2) (mx_S s) (mx_V v) (mx_O o) → ∀ r : Int32, r.toInt = mx_S s 0 m0 → post r (z, (nI m0), K, L, M, X, R, s, v, o, fr, tu, kf, kt, pn)) :
    ∀ d w s v o, w + d = m0 + 1 → 0 < w → mx_P lv kd mn T m0 (-2) s v o w 0 → wY_readAll_2 post (d + 1) (nI w) z (nI m0) K L M X R s v o fr tu kf kt pn := by
  intro d
  induction d with
  | zero =>
    intro w s v o hw h0 hP
    have e : w = m0 + 1 := by omega
    subst e
    exact br_t (nI_lt (by omega) (by omega)) (my_str 0 m0 nI_0.symm rfl (by omega) h16 (fun r hr => H s v o (mx_P3 hP) r hr))
  | succ d ih =>
    intro w s v o hw h0 hP
    refine br_f (nI_nlt (by omega) (by omega)) ⟨(m0 + 1 - w) + 1, ?_⟩
    exact my_ra12 hG h0 (by omega) h16 hA (fun s' v' o' hP' => ih (w + 1) s' v' o' (by omega) (by omega) hP') (m0 + 1 - w) 0 s v o (by omega) hP
theorem my_rall {R s v o : Nat → Int32} (hG : mx_G lv kd mn K L M) {post : Int32 → SY → Prop} (h16 : m0 ≤ 16) (hA : mx_A R T m0)
    (H : ∀ s v o, mx_T lv kd mn T m0 (-2) (mx_S s) (mx_V v) (mx_O o) → ∀ r : Int32, r.toInt = mx_S s 0 m0 → post r (z, (nI m0), K, L, M, X, R, s, v, o, fr, tu, kf, kt, pn)) :
    wpY_readAll post (z, (nI m0), K, L, M, X, R, s, v, o, fr, tu, kf, kt, pn) :=
  ⟨m0 + 1, my_ra2 hG h16 hA H m0 1 s v o (by omega) (by omega) mx_P0⟩
theorem my_rt10 {s v o : Nat → Int32} (hG : mx_G lv kd mn K L M) {post : Int32 → SY → Prop} (hn : m0 ≤ 15) (hX : mx_A X T m0)
    (H : ∀ R s v o, mx_A R T m0 → mx_T lv kd mn T m0 (-2) (mx_S s) (mx_V v) (mx_O o) → ∀ r : Int32, r.toInt = mx_S s 0 m0 → post r ((nI m0), (nI m0), K, L, M, X, R, s, v, o, fr, tu, kf, kt, pn)) :
    ∀ d i R, i + d = m0 → (∀ j, j < i → R j = nI (T j)) → wY_readText_10 post (nI m0) (nI m0) (d + 1) (nI i) K L M X R s v o fr tu kf kt pn := by
  intro d
  induction d with
  | zero =>
    intro i R hi hR
    have e : i = m0 := by omega
    subst e
    exact br_t (nI_le (by omega) (by omega)) (my_rall hG (by omega) ⟨hR, hX.2⟩ (fun s' v' o' hT r hr => H R s' v' o' ⟨hR, hX.2⟩ hT r hr))
  | succ d ih =>
    intro i R hi hR
    refine br_f (nI_ge (by omega) (by omega)) ⟨vp_in_nI (by omega) (by omega), vp_in_nI (by omega) (by omega), nm_r (e' := upd R i (nI (T i))) ?_ (nm_r (nI_1 i) (ih (i + 1) _ (by omega) (fun j hj => ?_)))⟩
    · rw [nI_clamp (by omega), hX.1 i (by omega)]
    · by_cases e : j = i
      · rw [e]
        exact pk_us
      · rw [pk_un e]
        exact hR j (by omega)
theorem my_rtx {m : Int32} {R s v o : Nat → Int32} (hG : mx_G lv kd mn K L M) {post : Int32 → SY → Prop} (hn : m0 ≤ 15) (hX : mx_A X T m0)
    (H : ∀ R s v o, mx_A R T m0 → mx_T lv kd mn T m0 (-2) (mx_S s) (mx_V v) (mx_O o) → ∀ r : Int32, r.toInt = mx_S s 0 m0 → post r ((nI m0), (nI m0), K, L, M, X, R, s, v, o, fr, tu, kf, kt, pn)) :
    wpY_readText post ((nI m0), m, K, L, M, X, R, s, v, o, fr, tu, kf, kt, pn) :=
  ⟨m0 + 1, my_rt10 hG hn hX H m0 0 R (by omega) (fun j hj => absurd hj (by omega))⟩
end
