/-! the component fills its tables -/
section
variable {z wa wb wc : Int32} {K L M X s o v : Nat → Int32} {lv kd : Nat → Nat} {mn : Nat → Int32} {T : Nat → Nat}
theorem mz_op {post : Int32 → Prop} {x : Int32} {t : Nat} (hx : x = nI t) (ht : t < 20) (H1 : 10 ≤ t → t < 18 → post 1) (H0 : ¬ (10 ≤ t ∧ t < 18) → post 0) : wpX_isOperator post x := by
  subst hx
  refine my_if (d := t < 10) (nI_ltI (b := 10) (by omega) (by decide)) (fun c => H0 (by omega)) (fun c => my_if (d := 18 ≤ t) (nI_leI (a := 18) (by decide) (by omega)) (fun c2 => H0 (by omega)) (fun c2 => H1 (by omega) (by omega)))
theorem mz_rsE {post : SX → Prop} {x1 x2 x4 : Int32} {n q : Nat} (hq : q < 289) (hs : s q ≠ -1) (h : post (z, wa, wb, wc, K, L, M, X, s, o, v)) : wX_readSpan_75 post x1 x2 (nI q) z wa wb wc (n + 1) x4 K L M X s o v := by
  refine br_c (fun _ => h) (fun _ => ⟨vp_in_nI hq (by omega), br_f ?_ h⟩)
  rw [nI_clamp (by omega)]
  exact hs
theorem mz_rs (hG : mx_G lv kd mn K L M) {post : SX → Prop} {i j m0 : Nat} (hm : j ≤ m0) (h16 : m0 ≤ 16) (hA : mx_A X T m0) (hd : mx_dg s) (h1 : s (17 * i + j) = -1)
    (H1 : ∀ r, mx_F lv kd T (mx_S s) i r j → post (z, wa, wb, wc, K, L, M, X, (upd s (17 * i + j) (nI (lv (T r)))), (upd o (17 * i + j) (nI r)), (upd v (17 * i + j) (mx_jv lv kd mn T (mx_V v) i r j))))
    (H0 : (∀ r, ¬ mx_F lv kd T (mx_S s) i r j) → post (z, wa, wb, wc, K, L, M, X, s, o, v)) :
    ∀ d r, r + d = j → i ≤ r → (∀ x, x < r → ¬ mx_F lv kd T (mx_S s) i x j) → wX_readSpan_75 post (nI i) (nI j) (nI (17 * i + j)) z wa wb wc (d + 1) (nI r) K L M X s o v := by
  have hG' := hG
  obtain ⟨g1, g2, g3, g4, g5⟩ := hG
  intro d
  induction d with
  | zero =>
    intro r hr hi hb
    refine br_t (nI_le (by omega) (by omega)) (H0 (fun x hF => hb x ?_ hF))
    have := hF.2.1
    omega
  | succ d ih =>
    intro r hr hi hb
    have hR : X (nI r).toNatClampNeg = nI (T r) := by rw [nI_clamp (by omega)]; exact hA.1 r (by omega)
    have hT := hA.2 r
    have ir : vp_in (nI r) 16 := vp_in_nI (by omega) (by omega)
    have iq : vp_in (nI (17 * i + j)) 289 := vp_in_nI (by omega) (by omega)
    have cq : (nI (17 * i + j)).toNatClampNeg = 17 * i + j := nI_clamp (by omega)
    have nx : ¬ mx_F lv kd T (mx_S s) i r j → wX_readSpan_75 post (nI i) (nI j) (nI (17 * i + j)) z wa wb wc (d + 1) (nI (r + 1)) K L M X s o v := by
      intro hn
      refine ih (r + 1) (by omega) (by omega) (fun x hx hF => ?_)
      by_cases e : x = r
      · subst e
        exact hn hF
      · exact hb x (by omega) hF
    refine br_f (nI_ge (by omega) (by omega)) ⟨iq, br_t (by rw [cq]; exact h1) ⟨ir, mz_op hR hT (fun c1 c2 => br_f (by decide) ?_) (fun c => br_t rfl (nm_r (nI_1 r) (nx (fun hF => c ⟨hF.2.2.1, hF.2.2.2.1⟩))))⟩⟩
    refine mz_jn hG' hd (by omega) hi (by omega) (hA.1 r (by omega)) c1 c2 (fun hF => br_f (by decide) ?_) (fun hF => br_t rfl (nm_r (nI_1 r) (nx hF)))
    have e10 : X (nI r).toNatClampNeg - 10 = nI (T r - 10) := by
      rw [hR]
      exact pk_sub (b := 10) c1
    have eL : L (X (nI r).toNatClampNeg - 10).toNatClampNeg = nI (lv (T r)) := by
      rw [e10, nI_clamp (by omega)]
      exact g4 _ c1 c2
    have l5 := g2 (T r)
    refine ⟨ir, by rw [e10]; exact vp_in_nI (by omega) (by omega), iq, nm_r (e' := upd s (17 * i + j) (nI (lv (T r)))) (by rw [cq, eL]) ⟨iq, nm_r (e' := upd o (17 * i + j) (nI r)) (by rw [cq]) ?_⟩⟩
    refine mz_jv hG' (by omega) hi (by omega) (hA.1 r (by omega)) c1 c2 ⟨iq, nm_r (e' := upd v (17 * i + j) (mx_jv lv kd mn T (mx_V v) i r j)) (by rw [cq]) (nm_r (nI_1 r) (mz_rsE (by omega) ?_ (H1 r hF)))⟩
    rw [pk_us]
    intro e
    have e2 := congrArg Int32.toInt e
    rw [nI_toInt (by omega), my_m1] at e2
    omega
theorem mz_rsp (hG : mx_G lv kd mn K L M) {post : SX → Prop} {y : Int32} {i j m0 : Nat} (hy : y = nI j) (hij : i < j) (hm : j ≤ m0) (h16 : m0 ≤ 16) (hA : mx_A X T m0) (hd : mx_dg s) (h1 : s (17 * i + j) = -1)
    (hS : mx_S s (i + 1) (j - 1) = -1 ∨ 0 ≤ mx_S s (i + 1) (j - 1))
    (H : ∀ s' o' v', mx_U s s' i j → mx_U v v' i j → mx_U o o' i j → mx_C lv kd mn T (-1) (mx_S s') (mx_V v') (mx_O o') i j → post (z, wa, wb, wc, K, L, M, X, s', o', v')) : wpX_readSpan post (z, wa, wb, wc, K, L, M, X, s, o, v) (nI i) y := by
  subst hy
  have j16 : j ≤ 16 := by omega
  have hG' := hG
  obtain ⟨g1, g2, g3, g4, g5⟩ := hG
  have eq := mz_17 i j
  have iq : vp_in (nI (17 * i + j)) 289 := vp_in_nI (by omega) (by omega)
  have cq : (nI (17 * i + j)).toNatClampNeg = 17 * i + j := nI_clamp (by omega)
  have u1 : ∀ a : Int32, mx_U s (upd s (17 * i + j) a) i j := fun a => mx_Uu j16
  have v1 : ∀ a : Int32, mx_U v (upd v (17 * i + j) a) i j := fun a => mx_Uu j16
  have o1 : ∀ a : Int32, mx_U o (upd o (17 * i + j) a) i j := fun a => mx_Uu j16
  have o2 : ∀ a b : Int32, mx_U o (upd (upd o (17 * i + j) a) (17 * i + j) b) i j := fun a b => mx_Ut (mx_Uu j16) (mx_Uu j16)
  have hRi : X (nI i).toNatClampNeg = nI (T i) := by rw [nI_clamp (by omega)]; exact hA.1 i (by omega)
  have eJ : nI j - 1 = nI (j - 1) := pk_sub (b := 1) (by omega)
  have hRj : X (nI j - 1).toNatClampNeg = nI (T (j - 1)) := by rw [eJ, nI_clamp (by omega)]; exact hA.1 (j - 1) (by omega)
  have ti := hA.2 i
  have tj := hA.2 (j - 1)
  have ii : vp_in (nI i) 16 := vp_in_nI (by omega) (by omega)
  have rest : ¬ (j = i + 1 ∧ T i < 10) → ¬ mx_B T (mx_S s) i j → ∃ n, wX_readSpan_75 post (nI i) (nI j) (nI (17 * i + j)) z wa wb wc n (nI i) K L M X s (upd o (17 * i + j) (-1)) v := by
    intro c1 c2
    refine ⟨j - i + 1, mz_rs hG' hm h16 hA hd h1 (fun r hF => ?_) (fun hn => ?_) (j - i) i (by omega) (Nat.le_refl _) (fun x hx hF => absurd hF.1 (by omega))⟩
    · exact H _ _ _ (u1 _) (v1 _) (o2 _ _) (mx_mF j16 (u1 _) (v1 _) hF (g2 _) pk_us pk_us pk_us)
    · exact H _ _ _ mx_Ur mx_Ur (o1 _) (mx_m0 j16 hij mx_Ur h1 c1 c2 hn)
  refine nm_r eq ⟨iq, nm_r (e' := upd o (17 * i + j) (-1)) (by rw [cq]) (my_if (d := j = i + 1) ?_ (fun c => ⟨ii, ?_⟩) (fun c => ⟨ii, ?_⟩))⟩
  · rw [pk_sub (by omega)]
    refine (nI_eq (b := 1) (by omega) (by decide)).trans ?_
    omega
  · rw [hRi]
    refine my_if (d := 10 ≤ T i) (nI_leI (a := 10) (by decide) (by omega)) (fun c2 => ?_) (fun c2 => ⟨iq, nm_r (e' := upd s (17 * i + j) 5) (by rw [cq]) ⟨iq, nm_r (e' := upd v (17 * i + j) (nI (T i))) (by rw [cq]) ?_⟩⟩)
    · refine H _ _ _ mx_Ur mx_Ur (o1 _) (mx_m0 j16 hij mx_Ur h1 (by omega) (fun hB => ?_) (fun r hF => ?_))
      · have b1 := hB.1
        have b2 := hB.2.1
        have e : j - 1 = i := by omega
        rw [e] at b2
        omega
      · obtain ⟨p1, p2, p3, p4, hl, hr⟩ := hF
        have e : r = i := by omega
        subst e
        have n1 := mx_n1g kd (lv (T r))
        have n2 := mx_n2g kd (lv (T r))
        rw [mx_S0 (Nat.le_refl _)] at hl
        rw [mx_S0 (by omega)] at hr
        omega
    · exact H _ _ _ (u1 _) (v1 _) (o1 _) (mx_mN c (by omega) pk_us pk_us pk_us)
  · refine my_if (d := T i = 18) (by rw [hRi]; exact nI_eq (b := 18) (by omega) (by decide)) (fun c2 => ⟨by rw [eJ]; exact vp_in_nI (by omega) (by omega), my_if (d := T (j - 1) = 19) (by rw [hRj]; exact nI_eq (b := 19) (by omega) (by decide)) (fun c3 => ?_) (fun c3 => rest (by omega) (fun hB => c3 hB.2.1))⟩) (fun c2 => rest (by omega) (fun hB => c2 hB.1))
    have e3 : ((nI i + 1) * (17 : Int32) + nI j) - 1 = nI (17 * (i + 1) + (j - 1)) := by
      rw [mz_17b i j]
      exact (pk_sub (b := 1) (by omega)).trans (congrArg nI (by omega))
    have c4 : (nI (17 * (i + 1) + (j - 1))).toNatClampNeg = 17 * (i + 1) + (j - 1) := nI_clamp (by omega)
    have i4 : vp_in (nI (17 * (i + 1) + (j - 1))) 289 := vp_in_nI (by omega) (by omega)
    have sd := mx_Sd hd (by omega : i + 1 ≤ j - 1) (by omega)
    rw [e3]
    refine ⟨i4, my_if (d := mx_S s (i + 1) (j - 1) = -1) (by rw [c4]; exact my_em1 sd) (fun c5 => rest (by omega) (fun hB => ?_)) (fun c5 => ⟨iq, nm_r (e' := upd s (17 * i + j) 5) (by rw [cq]) ⟨i4, iq, nm_r (e' := upd v (17 * i + j) (v (17 * (i + 1) + (j - 1)))) (by rw [cq, c4]) ?_⟩⟩)⟩
    · have b3 := hB.2.2
      omega
    · refine ⟨1, mz_rsE (n := 0) (by omega) ?_ (H _ _ _ (u1 _) (v1 _) (o1 _) (mx_mB j16 (u1 _) (v1 _) ⟨c2, c3, by omega⟩ pk_us ?_ pk_us))⟩
      · rw [pk_us]
        decide
      · rw [pk_us]
        decide
end
/-- not yet done: these cells still hold -1 -/
def mx_E (s : Nat → Int32) (w i : Nat) : Prop := ∀ a b, a < b → b ≤ 16 → (w < b - a ∨ (b - a = w ∧ i ≤ a)) → s (17 * a + b) = -1
theorem mx_C1 {lv kd : Nat → Nat} {mn : Nat → Int32} {T : Nat → Nat} {cb : Int} {S : Nat → Nat → Int} {V : Nat → Nat → Int32} {O : Nat → Nat → Int} {i j : Nat} (h : mx_C lv kd mn T cb S V O i j) : S i j = -1 ∨ 0 ≤ S i j := by
  rcases h with ⟨_, _, h, _⟩ | ⟨_, h, _⟩ | ⟨r, _, h, _⟩ | ⟨h, _⟩
  · omega
  · omega
  · omega
  · exact Or.inl h
section
variable {z wa wb wc : Int32} {K L M X : Nat → Int32} {lv kd : Nat → Nat} {mn : Nat → Int32} {T : Nat → Nat} {m0 : Nat}
theorem mz_rt31 (hG : mx_G lv kd mn K L M) {post : Int32 → SX → Prop} {J : Int32 → Int32 → Int32 → Int32 → Int32 → (Nat → Int32) → (Nat → Int32) → (Nat → Int32) → (Nat → Int32) → (Nat → Int32) → (Nat → Int32) → (Nat → Int32) → Prop}
    {w : Nat} (hw : 0 < w) (hw2 : w ≤ m0) (h16 : m0 ≤ 16) (hA : mx_A X T m0)
    (HJ : ∀ s o v, mx_P lv kd mn T m0 (-1) s v o (w + 1) 0 → mx_dg s → mx_E s (w + 1) 0 → J (nI (w + 1)) z wa wb wc K L M X s o v) :
    ∀ d i s o v, i + d + w = m0 + 1 → mx_P lv kd mn T m0 (-1) s v o w i → mx_dg s → mx_E s w i → wX_readText_31 post J (nI m0) (nI w) (d + 1) (nI i) z wa wb wc K L M X s o v := by
  intro d
  induction d with
  | zero =>
    intro i s o v hi hP hd hE
    exact br_t (by rw [nI_add]; exact nI_lt (by omega) (by omega)) (nm_r (nI_1 w) (HJ s o v (mx_P2 (i := i) (by omega) hP) hd (fun a b h1 h2 h3 => hE a b h1 h2 (by omega))))
  | succ d ih =>
    intro i s o v hi hP hd hE
    refine br_f (by rw [nI_add]; exact nI_nlt (by omega) (by omega)) (mz_rsp hG (nI_add i w) (by omega) (by omega) h16 hA hd (hE i (i + w) (by omega) (by omega) (by omega)) ?_ (fun s' o' v' u1 u2 u3 hC => nm_r (nI_1 i) (ih (i + 1) s' o' v' (by omega) ?_ ?_ ?_)))
    · by_cases c : i + 1 < i + w - 1
      · exact mx_C1 (hP (i + 1) (i + w - 1) c (by omega) (by omega))
      · exact Or.inl (mx_S0 (by omega))
    · exact mx_P1 h16 hw (by omega) hP u1 u2 u3 hC
    · intro a ha
      rw [u1 a a ha (by omega)]
      exact hd a ha
    · intro a b h1 h2 h3
      rw [u1 a b h2 (by omega)]
      exact hE a b h1 h2 (by omega)
theorem mz_rt24 (hG : mx_G lv kd mn K L M) {post : Int32 → SX → Prop} (h16 : m0 ≤ 16) (hA : mx_A X T m0)
    (H : ∀ s o v, mx_T lv kd mn T m0 (-1) (mx_S s) (mx_V v) (mx_O o) → mx_dg s → ∀ r : Int32, (r = 0 ∧ mx_S s 0 m0 = -1) ∨ (r = 1 ∧ mx_S s 0 m0 ≠ -1) → post r (z, wa, wb, wc, K, L, M, X, s, o, v)) :
    ∀ d w s o v, w + d = m0 + 1 → 0 < w → mx_P lv kd mn T m0 (-1) s v o w 0 → mx_dg s → mx_E s w 0 → wX_readText_24 post (nI m0) (d + 1) (nI w) z wa wb wc K L M X s o v := by
  intro d
  induction d with
  | zero =>
    intro w s o v hw h0 hP hd hE
    have e : w = m0 + 1 := by omega
    subst e
    have e0 : 17 * 0 + m0 = m0 := by omega
    have sd := mx_Sd hd (Nat.zero_le m0) h16
    rw [e0] at sd
    refine br_t (nI_lt (by omega) (by omega)) ⟨vp_in_nI (by omega) (by omega), my_if (d := mx_S s 0 m0 = -1) (by rw [nI_clamp (by omega)]; exact my_em1 sd) (fun c => H s o v (mx_P3 hP) hd 0 (Or.inl ⟨rfl, c⟩)) (fun c => H s o v (mx_P3 hP) hd 1 (Or.inr ⟨rfl, c⟩))⟩
  | succ d ih =>
    intro w s o v hw h0 hP hd hE
    refine br_f (nI_nlt (by omega) (by omega)) ⟨(m0 + 1 - w) + 1, ?_⟩
    exact mz_rt31 hG h0 (by omega) h16 hA (fun s' o' v' hP' hd' hE' => ih (w + 1) s' o' v' (by omega) (by omega) hP' hd' hE') (m0 + 1 - w) 0 s o v (by omega) hP hd hE
theorem mz_rt2 {o v : Nat → Int32} (hG : mx_G lv kd mn K L M) {post : Int32 → SX → Prop} (h16 : m0 ≤ 16) (hA : mx_A X T m0)
    (H : ∀ s o v, mx_T lv kd mn T m0 (-1) (mx_S s) (mx_V v) (mx_O o) → mx_dg s → ∀ r : Int32, (r = 0 ∧ mx_S s 0 m0 = -1) ∨ (r = 1 ∧ mx_S s 0 m0 ≠ -1) → post r (z, wa, wb, wc, K, L, M, X, s, o, v)) :
    ∀ d i s, i + d = 289 → (∀ y, y < i → s y = -1) → wX_readText_2 post (nI m0) z wa wb wc (d + 1) (nI i) K L M X s o v := by
  intro d
  induction d with
  | zero =>
    intro i s hi hs
    refine br_t (nI_le (a := 289) (by omega) (by omega)) ⟨m0 + 1, mz_rt24 hG h16 hA H m0 1 s o v (by omega) (by omega) mx_P0 (fun a ha => hs _ (by omega)) (fun a b h1 h2 h3 => hs _ (by omega))⟩
  | succ d ih =>
    intro i s hi hs
    refine br_f (nI_ge (b := 289) (by omega) (by decide)) ⟨vp_in_nI (by omega) (by omega), nm_r (e' := upd s i (-1)) (by rw [nI_clamp (by omega)]) (nm_r (nI_1 i) (ih (i + 1) _ (by omega) (fun y hy => ?_)))⟩
    by_cases e : y = i
    · rw [e]
      exact pk_us
    · rw [pk_un e]
      exact hs y (by omega)
theorem mz_rtx {s o v : Nat → Int32} (hG : mx_G lv kd mn K L M) {post : Int32 → SX → Prop} {x : Int32} (hx : x = nI m0) (h16 : m0 ≤ 16) (hA : mx_A X T m0)
    (H : ∀ s o v, mx_T lv kd mn T m0 (-1) (mx_S s) (mx_V v) (mx_O o) → mx_dg s → ∀ r : Int32, (r = 0 ∧ mx_S s 0 m0 = -1) ∨ (r = 1 ∧ mx_S s 0 m0 ≠ -1) → post r (z, wa, wb, wc, K, L, M, X, s, o, v)) :
    wpX_readText post (z, wa, wb, wc, K, L, M, X, s, o, v) x := by
  subst hx
  exact ⟨289 + 1, mz_rt2 hG h16 hA H 289 0 s (by omega) (fun y hy => absurd hy (by omega))⟩
end
