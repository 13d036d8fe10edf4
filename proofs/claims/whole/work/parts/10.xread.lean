/-! the component reads -/
theorem mz_17 (i j : Nat) : nI i * (17 : Int32) + nI j = nI (17 * i + j) := by
  show nI i * nI 17 + nI j = _
  rw [pk_mul, nI_add]
  exact congrArg nI (by omega)
theorem mz_17b (r j : Nat) : (nI r + 1) * (17 : Int32) + nI j = nI (17 * (r + 1) + j) := by
  rw [nI_1]
  exact mz_17 (r + 1) j
section
variable {z wa wb wc : Int32} {K L M X s o v : Nat → Int32} {lv kd : Nat → Nat} {mn : Nat → Int32} {T : Nat → Nat}
theorem mz_n1 (hG : mx_G lv kd mn K L M) {post : Int32 → Prop} {k : Nat} (hk : k < 5) (h : ∀ r : Int32, r.toInt = mx_n1 kd k → post r) : wpX_needOfFirst post (z, wa, wb, wc, K, L, M, X, s, o, v) (nI k) := by
  obtain ⟨g1, g2, g3, g4, g5⟩ := hG
  have d5 := g1 k
  have eK : K (nI k).toNatClampNeg = nI (kd k) := by rw [nI_clamp (by omega)]; exact g3 _ hk
  have ik : vp_in (nI k) 5 := vp_in_nI hk (by omega)
  have up : (nI k + 1).toInt = (k : Int) + 1 := by
    rw [nI_1, nI_toInt (by omega)]
    omega
  refine ⟨ik, my_if (d := kd k = 1) (by rw [eK]; exact nI_eq (b := 1) (by omega) (by decide)) (fun c => h _ ?_) (fun c => ⟨ik, my_if (d := kd k = 2) (by rw [eK]; exact nI_eq (b := 2) (by omega) (by decide)) (fun c2 => h _ ?_) (fun c2 => h _ ?_)⟩)⟩
  · rw [up, mx_n1s (by omega)]
  · rw [up, mx_n1s (by omega)]
  · rw [nI_toInt (by omega), mx_n1k c c2]
theorem mz_n2 (hG : mx_G lv kd mn K L M) {post : Int32 → Prop} {k : Nat} (hk : k < 5) (h : ∀ r : Int32, r.toInt = mx_n2 kd k → post r) : wpX_needOfSecond post (z, wa, wb, wc, K, L, M, X, s, o, v) (nI k) := by
  obtain ⟨g1, g2, g3, g4, g5⟩ := hG
  have d5 := g1 k
  have eK : K (nI k).toNatClampNeg = nI (kd k) := by rw [nI_clamp (by omega)]; exact g3 _ hk
  have ik : vp_in (nI k) 5 := vp_in_nI hk (by omega)
  have up : (nI k + 1).toInt = (k : Int) + 1 := by
    rw [nI_1, nI_toInt (by omega)]
    omega
  refine ⟨ik, my_if (d := kd k = 0) (by rw [eK]; exact nI_eq (b := 0) (by omega) (by decide)) (fun c => h _ ?_) (fun c => ⟨ik, my_if (d := kd k = 2) (by rw [eK]; exact nI_eq (b := 2) (by omega) (by decide)) (fun c2 => h _ ?_) (fun c2 => h _ ?_)⟩)⟩
  · rw [up, mx_n2s (by omega)]
  · rw [up, mx_n2s (by omega)]
  · rw [nI_toInt (by omega), mx_n2k c c2]
theorem mz_one {post : Int32 → Prop} {a b : Int32} (h : post (mx_one a b)) : wpX_valueOfOne post a b := by
  unfold mx_one at h
  by_cases c0 : a = 0
  · rw [if_pos c0] at h
    subst c0
    exact br_f (by decide) (br_f (by decide) (br_t rfl h))
  · rw [if_neg c0] at h
    by_cases c1 : a = 1
    · rw [if_pos c1] at h
      subst c1
      exact br_f (by decide) (br_f (by decide) (br_f (by decide) (br_t rfl h)))
    · rw [if_neg c1] at h
      by_cases c2 : a = 2
      · rw [if_pos c2] at h
        subst c2
        exact br_f (by decide) (br_f (by decide) (br_f (by decide) (br_f (by decide) (br_t rfl h))))
      · rw [if_neg c2] at h
        exact br_c (fun _ => h) (fun _ => br_c (fun _ => h) (fun _ => br_f c0 (br_f c1 (br_f c2 trivial))))
theorem mz_two {post : Int32 → Prop} {a b c : Int32} (h : post (mx_two a b c)) : wpX_valueOfTwo post a b c := by
  unfold mx_two at h
  by_cases c0 : a = 0
  · rw [if_pos c0] at h
    subst c0
    exact br_f (by decide) (br_f (by decide) (br_t rfl h))
  · rw [if_neg c0] at h
    by_cases c1 : a = 1
    · rw [if_pos c1] at h
      subst c1
      exact br_f (by decide) (br_f (by decide) (br_f (by decide) (br_t rfl h)))
    · rw [if_neg c1] at h
      by_cases c2 : a = 2
      · rw [if_pos c2] at h
        subst c2
        exact br_f (by decide) (br_f (by decide) (br_f (by decide) (br_f (by decide) (br_t rfl h))))
      · rw [if_neg c2] at h
        exact br_c (fun _ => h) (fun _ => br_c (fun _ => h) (fun _ => br_f c0 (br_f c1 (br_f c2 trivial))))
/-- the diagonal stands for the empty spans -/
def mx_dg (s : Nat → Int32) : Prop := ∀ i, i ≤ 16 → s (17 * i + i) = -1
theorem mx_Sd {s : Nat → Int32} {i j : Nat} (hd : mx_dg s) (hij : i ≤ j) (hj : j ≤ 16) : (s (17 * i + j)).toInt = mx_S s i j := by
  by_cases c : i < j
  · rw [mx_S1 c]
  · have e : i = j := by omega
    subst e
    rw [mx_S0 (Nat.le_refl _), hd i hj]
    decide
theorem mz_jn (hG : mx_G lv kd mn K L M) {post : Int32 → Prop} {i r j : Nat} (hd : mx_dg s) (hj : j ≤ 16) (hi : i ≤ r) (hr : r < j) (hR : X r = nI (T r)) (h10 : 10 ≤ T r) (h18 : T r < 18)
    (H1 : mx_F lv kd T (mx_S s) i r j → post 1) (H0 : ¬ mx_F lv kd T (mx_S s) i r j → post 0) : wpX_joins post (z, wa, wb, wc, K, L, M, X, s, o, v) (nI i) (nI r) (nI j) := by
  have hG' := hG
  obtain ⟨g1, g2, g3, g4, g5⟩ := hG
  have k5 := g2 (T r)
  have d5 := g1 (lv (T r))
  have n1 := mx_n1g kd (lv (T r))
  have n2 := mx_n2g kd (lv (T r))
  have e10 : X (nI r).toNatClampNeg - 10 = nI (T r - 10) := by
    rw [nI_clamp (by omega), hR]
    exact pk_sub (b := 10) h10
  have eL : L (X (nI r).toNatClampNeg - 10).toNatClampNeg = nI (lv (T r)) := by
    rw [e10, nI_clamp (by omega)]
    exact g4 _ h10 h18
  have eK : K (nI (lv (T r))).toNatClampNeg = nI (kd (lv (T r))) := by rw [nI_clamp (by omega)]; exact g3 _ k5
  have eA := mz_17 i r
  have eB := mz_17b r j
  have iA : vp_in (nI i * (17 : Int32) + nI r) 289 := by rw [eA]; exact vp_in_nI (by omega) (by omega)
  have iB : vp_in ((nI r + 1) * (17 : Int32) + nI j) 289 := by rw [eB]; exact vp_in_nI (by omega) (by omega)
  have sA : s (nI i * (17 : Int32) + nI r).toNatClampNeg = s (17 * i + r) := by rw [eA, nI_clamp (by omega)]
  have sB : s ((nI r + 1) * (17 : Int32) + nI j).toNatClampNeg = s (17 * (r + 1) + j) := by rw [eB, nI_clamp (by omega)]
  have ha := mx_Sd hd hi (by omega : r ≤ 16)
  have hb := mx_Sd hd (by omega : r + 1 ≤ j) hj
  have tail : ∀ x z0 : Int32, (x = 0 ∨ z0 = 0 → ¬ mx_F lv kd T (mx_S s) i r j) → (x ≠ 0 → z0 ≠ 0 → mx_F lv kd T (mx_S s) i r j) → wX_joins_127 post x z0 z wa wb wc K L M X s o v := by
    intro x z0 h0 h1
    exact br_c (fun e => H0 (h0 (Or.inl e))) (fun e => br_c (fun e2 => H0 (h0 (Or.inr e2))) (fun e2 => H1 (h1 e e2)))
  have second : ∀ x : Int32, (x = 0 ∨ x = 1) → (x = 1 ↔ ((kd (lv (T r)) = 3 ∧ r = i) ∨ (kd (lv (T r)) ≠ 3 ∧ mx_n1 kd (lv (T r)) ≤ mx_S s i r))) →
      wX_joins_88 post (nI r) (nI j) (nI (lv (T r))) (nI (kd (lv (T r)))) (s (17 * (r + 1) + j)) x z wa wb wc K L M X s o v := by
    intro x hx hl
    have x0 : x = 0 → ¬ mx_F lv kd T (mx_S s) i r j := by
      intro e hF
      have e1 := hl.mpr hF.2.2.2.2.1
      rw [e] at e1
      exact absurd e1 (by decide)
    have x1 : x ≠ 0 → ((kd (lv (T r)) = 3 ∧ r = i) ∨ (kd (lv (T r)) ≠ 3 ∧ mx_n1 kd (lv (T r)) ≤ mx_S s i r)) := by
      intro e
      rcases hx with hx | hx
      · exact absurd hx e
      · exact hl.mp hx
    by_cases k4 : kd (lv (T r)) = 4
    · refine br_t (congrArg nI k4) (my_if (d := r + 1 = j) (by rw [nI_1]; exact nI_eq (by omega) (by omega)) (fun c => tail _ _ ?_ ?_) (fun c => tail _ _ ?_ ?_))
      · intro e
        rcases e with e | e
        · exact x0 e
        · exact absurd e (by decide)
      · exact fun e _ => ⟨hi, hr, h10, h18, x1 e, Or.inl ⟨k4, c⟩⟩
      · intro _ hF
        have q := hF.2.2.2.2.2
        omega
      · exact fun _ e => absurd rfl e
    · have n4 : ¬ nI (kd (lv (T r))) = 4 := fun e => k4 ((nI_eq (b := 4) (by omega) (by decide)).mp e)
      refine br_f n4 (mz_n2 hG' k5 (fun b' hb' => my_if (d := mx_S s (r + 1) j < mx_n2 kd (lv (T r))) (by rw [Int32.lt_iff_toInt_lt, hb, hb']) (fun c => tail _ _ ?_ ?_) (fun c => tail _ _ ?_ ?_)))
      · intro _ hF
        have q := hF.2.2.2.2.2
        omega
      · exact fun _ e => absurd rfl e
      · intro e
        rcases e with e | e
        · exact x0 e
        · exact absurd e (by decide)
      · exact fun e _ => ⟨hi, hr, h10, h18, x1 e, Or.inr ⟨k4, by omega⟩⟩
  refine ⟨vp_in_nI (by omega) (by omega), by rw [e10]; exact vp_in_nI (by omega) (by omega), nm_r eL ⟨vp_in_nI (by omega) (by omega), nm_r eK ⟨iA, nm_r sA ⟨iB, nm_r sB ?_⟩⟩⟩⟩
  by_cases k3 : kd (lv (T r)) = 3
  · refine br_t (congrArg nI k3) (pk_eq r i (fun e => second 1 (Or.inr rfl) ⟨fun _ => Or.inl ⟨k3, e⟩, fun _ => rfl⟩) (fun e => second 0 (Or.inl rfl) ⟨fun z => absurd z (by decide), fun z => ?_⟩))
    omega
  · have n3 : ¬ nI (kd (lv (T r))) = 3 := fun e => k3 ((nI_eq (b := 3) (by omega) (by decide)).mp e)
    refine br_f n3 (mz_n1 hG' k5 (fun a' ha' => my_if (d := mx_S s i r < mx_n1 kd (lv (T r))) (by rw [Int32.lt_iff_toInt_lt, ha, ha']) (fun c => second 0 (Or.inl rfl) ⟨fun z => absurd z (by decide), fun z => ?_⟩) (fun c => second 1 (Or.inr rfl) ⟨fun _ => Or.inr ⟨k3, by omega⟩, fun _ => rfl⟩)))
    omega
theorem mz_jv (hG : mx_G lv kd mn K L M) {post : Int32 → Prop} {i r j : Nat} (hj : j ≤ 16) (hi : i ≤ r) (hr : r < j) (hR : X r = nI (T r)) (h10 : 10 ≤ T r) (h18 : T r < 18)
    (H : post (mx_jv lv kd mn T (mx_V v) i r j)) : wpX_joinedValue post (z, wa, wb, wc, K, L, M, X, s, o, v) (nI i) (nI r) (nI j) := by
  obtain ⟨g1, g2, g3, g4, g5⟩ := hG
  have k5 := g2 (T r)
  have d5 := g1 (lv (T r))
  have e10 : X (nI r).toNatClampNeg - 10 = nI (T r - 10) := by
    rw [nI_clamp (by omega), hR]
    exact pk_sub (b := 10) h10
  have eL : L (nI (T r - 10)).toNatClampNeg = nI (lv (T r)) := by
    rw [nI_clamp (by omega)]
    exact g4 _ h10 h18
  have eM : M (nI (T r - 10)).toNatClampNeg = mn (T r) := by
    rw [nI_clamp (by omega)]
    exact g5 _ h10 h18
  have eK : K (L (nI (T r - 10)).toNatClampNeg).toNatClampNeg = nI (kd (lv (T r))) := by rw [eL, nI_clamp (by omega)]; exact g3 _ k5
  have eA := mz_17 i r
  have eB := mz_17b r j
  have iA : vp_in (nI i * (17 : Int32) + nI r) 289 := by rw [eA]; exact vp_in_nI (by omega) (by omega)
  have iB : vp_in ((nI r + 1) * (17 : Int32) + nI j) 289 := by rw [eB]; exact vp_in_nI (by omega) (by omega)
  have vA : v (nI i * (17 : Int32) + nI r).toNatClampNeg = mx_V v i r := by rw [eA, nI_clamp (by omega)]; rfl
  have vB : v ((nI r + 1) * (17 : Int32) + nI j).toNatClampNeg = mx_V v (r + 1) j := by rw [eB, nI_clamp (by omega)]; rfl
  have x8 : vp_in (nI (T r - 10)) 8 := vp_in_nI (by omega) (by omega)
  refine ⟨vp_in_nI (by omega) (by omega), nm_r e10 ⟨x8, by rw [eL]; exact vp_in_nI (by omega) (by omega), nm_r eK ⟨iA, nm_r vA ⟨iB, nm_r vB ?_⟩⟩⟩⟩
  by_cases k3 : kd (lv (T r)) = 3
  · have ej : mx_jv lv kd mn T (mx_V v) i r j = mx_one (mn (T r)) (mx_V v (r + 1) j) := if_pos k3
    rw [ej] at H
    refine br_t (congrArg nI k3) ⟨x8, mz_one ?_⟩
    rw [eM]
    exact H
  · have n3 : ¬ nI (kd (lv (T r))) = 3 := fun e => k3 ((nI_eq (b := 3) (by omega) (by decide)).mp e)
    refine br_f n3 ?_
    by_cases k4 : kd (lv (T r)) = 4
    · have ej : mx_jv lv kd mn T (mx_V v) i r j = mx_one (mn (T r)) (mx_V v i r) := (if_neg k3).trans (if_pos k4)
      rw [ej] at H
      refine br_t (congrArg nI k4) ⟨x8, mz_one ?_⟩
      rw [eM]
      exact H
    · have ej : mx_jv lv kd mn T (mx_V v) i r j = mx_two (mn (T r)) (mx_V v i r) (mx_V v (r + 1) j) := (if_neg k3).trans (if_neg k4)
      rw [ej] at H
      have n4 : ¬ nI (kd (lv (T r))) = 4 := fun e => k4 ((nI_eq (b := 4) (by omega) (by decide)).mp e)
      refine br_f n4 ⟨x8, mz_two ?_⟩
      rw [eM]
      exact H
end
