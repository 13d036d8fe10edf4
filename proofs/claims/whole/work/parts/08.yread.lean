/-! the reference reads -/
section
variable {z m : Int32} {K L M X R s v o fr tu kf kt pn : Nat → Int32}
theorem my_str {post : Int32 → Prop} {x y : Int32} (i j : Nat) (hx : x = nI i) (hy : y = nI j) (hi : i < 2 ^ 31) (hj : j ≤ 16) (h : ∀ r : Int32, r.toInt = mx_S s i j → post r) : wpY_strongest post (z, m, K, L, M, X, R, s, v, o, fr, tu, kf, kt, pn) x y := by
  subst hx hy
  refine pk_le j i (fun c => h _ (by rw [mx_S0 c]; decide)) (fun c => ?_)
  have e := my_17 i j
  refine ⟨by rw [e]; exact vp_in_nI (by omega) (by omega), h _ ?_⟩
  rw [e, nI_clamp (by omega), mx_S1 c]
theorem my_set {post : SY → Prop} {x y a b c : Int32} (i j : Nat) (hx : x = nI i) (hy : y = nI j) (hi : i < 16) (hj : j ≤ 16)
    (h : post (z, m, K, L, M, X, R, (upd s (17 * i + j) a), (upd v (17 * i + j) b), (upd o (17 * i + j) c), fr, tu, kf, kt, pn)) : wpY_set post (z, m, K, L, M, X, R, s, v, o, fr, tu, kf, kt, pn) x y a b c := by
  subst hx hy
  have e := my_17 i j
  have hin : vp_in ((17 : Int32) * nI i + nI j) 289 := by rw [e]; exact vp_in_nI (by omega) (by omega)
  have hc : ((17 : Int32) * nI i + nI j).toNatClampNeg = 17 * i + j := by rw [e, nI_clamp (by omega)]
  exact ⟨hin, nm_r (congrArg (fun k => upd s k a) hc) ⟨hin, nm_r (congrArg (fun k => upd v k b) hc) ⟨hin, nm_r (congrArg (fun k => upd o k c) hc) h⟩⟩⟩
theorem my_btw {post : Int32 → Prop} {a b c : Int32} (h : post (mx_two a b c)) : wpY_between post (z, m, K, L, M, X, R, s, v, o, fr, tu, kf, kt, pn) a b c := by
  unfold mx_two at h
  by_cases c0 : a = 0
  · rw [if_pos c0] at h
    exact br_t c0 h
  · rw [if_neg c0] at h
    refine br_f c0 ?_
    by_cases c1 : a = 1
    · rw [if_pos c1] at h
      exact br_t c1 h
    · rw [if_neg c1] at h
      refine br_f c1 ?_
      by_cases c2 : a = 2
      · rw [if_pos c2] at h
        exact br_t c2 h
      · rw [if_neg c2] at h
        exact br_f c2 h
theorem my_aln {post : Int32 → Prop} {a b : Int32} (h : post (mx_one a b)) : wpY_alone post (z, m, K, L, M, X, R, s, v, o, fr, tu, kf, kt, pn) a b := by
  unfold mx_one at h
  by_cases c0 : a = 0
  · rw [if_pos c0] at h
    exact br_t c0 h
  · rw [if_neg c0] at h
    refine br_f c0 ?_
    by_cases c1 : a = 1
    · rw [if_pos c1] at h
      exact br_t c1 h
    · rw [if_neg c1] at h
      refine br_f c1 ?_
      by_cases c2 : a = 2
      · rw [if_pos c2] at h
        exact br_t c2 h
      · rw [if_neg c2] at h
        exact br_f c2 h
end
section
variable {z m : Int32} {K L M X R s v o fr tu kf kt pn : Nat → Int32} {lv kd : Nat → Nat} {mn : Nat → Int32} {T : Nat → Nat}
theorem my_try (hG : mx_G lv kd mn K L M) {post : Int32 → SY → Prop} {i r j k : Nat} (hj : j ≤ 16) (hi : i ≤ r) (hr : r < j) (hR : R r = nI (T r)) (h10 : 10 ≤ T r) (h18 : T r < 18) (hk : lv (T r) = k)
    (H1 : mx_F lv kd T (mx_S s) i r j → post 1 (z, m, K, L, M, X, R, (upd s (17 * i + j) (nI k)), (upd v (17 * i + j) (mx_jv lv kd mn T (mx_V v) i r j)), (upd o (17 * i + j) (nI r)), fr, tu, kf, kt, pn))
    (H0 : ¬ mx_F lv kd T (mx_S s) i r j → post 0 (z, m, K, L, M, X, R, s, v, o, fr, tu, kf, kt, pn)) : wpY_tryOperator post (z, m, K, L, M, X, R, s, v, o, fr, tu, kf, kt, pn) (nI i) (nI j) (nI r) (nI k) := by
  obtain ⟨g1, g2, g3, g4, g5⟩ := hG
  subst hk
  have k5 := g2 (T r)
  have d5 := g1 (lv (T r))
  have n1 := mx_n1g kd (lv (T r))
  have n2 := mx_n2g kd (lv (T r))
  have eK : K (nI (lv (T r))).toNatClampNeg = nI (kd (lv (T r))) := by rw [nI_clamp (by omega)]; exact g3 _ k5
  have eR : R (nI r).toNatClampNeg - 10 = nI (T r - 10) := by
    rw [nI_clamp (by omega), hR]
    exact pk_sub (b := 10) h10
  have G1 : mx_F lv kd T (mx_S s) i r j → wY_tryOperator_136 post (nI i) (nI j) (nI r) (nI (lv (T r))) (nI (T r - 10)) (nI (kd (lv (T r)))) 1 z m K L M X R s v o fr tu kf kt pn := by
    intro hF
    have h1 := H1 hF
    have x8 : vp_in (nI (T r - 10)) 8 := vp_in_nI (by omega) (by omega)
    have eM : M (nI (T r - 10)).toNatClampNeg = mn (T r) := by rw [nI_clamp (by omega)]; exact g5 _ h10 h18
    have eB := my_17b r j
    have eA := my_17 i r
    have iB : vp_in ((17 : Int32) * nI r + 17 + nI j) 289 := by rw [eB]; exact vp_in_nI (by omega) (by omega)
    have iA : vp_in ((17 : Int32) * nI i + nI r) 289 := by rw [eA]; exact vp_in_nI (by omega) (by omega)
    have vB : v ((17 : Int32) * nI r + 17 + nI j).toNatClampNeg = mx_V v (r + 1) j := by rw [eB, nI_clamp (by omega)]; rfl
    have vA : v ((17 : Int32) * nI i + nI r).toNatClampNeg = mx_V v i r := by rw [eA, nI_clamp (by omega)]; rfl
    refine br_f (by decide) ?_
    by_cases k3 : kd (lv (T r)) = 3
    · have ej : mx_jv lv kd mn T (mx_V v) i r j = mx_one (mn (T r)) (mx_V v (r + 1) j) := if_pos k3
      rw [ej] at h1
      rw [k3]
      refine br_t rfl ⟨iB, br_f (by decide) ⟨x8, my_aln ?_⟩⟩
      rw [eM, vB]
      exact my_set i j rfl rfl (by omega) hj h1
    · by_cases k4 : kd (lv (T r)) = 4
      · have ej : mx_jv lv kd mn T (mx_V v) i r j = mx_one (mn (T r)) (mx_V v i r) := (if_neg k3).trans (if_pos k4)
        rw [ej] at h1
        rw [k4]
        refine br_f (by decide) ⟨iA, br_f (by decide) ⟨x8, my_aln ?_⟩⟩
        rw [eM, vA]
        exact my_set i j rfl rfl (by omega) hj h1
      · have ej : mx_jv lv kd mn T (mx_V v) i r j = mx_two (mn (T r)) (mx_V v i r) (mx_V v (r + 1) j) := (if_neg k3).trans (if_neg k4)
        rw [ej] at h1
        have n3 : ¬ nI (kd (lv (T r))) = 3 := fun e => k3 ((nI_eq (b := 3) (by omega) (by decide)).mp e)
        refine br_f n3 ⟨iA, br_t (nI_le (b := 2) (by omega) (by decide)) ⟨x8, iB, my_btw ?_⟩⟩
        rw [eM, vA, vB]
        exact my_set i j rfl rfl (by omega) hj h1
  have G0 : ¬ mx_F lv kd T (mx_S s) i r j → wY_tryOperator_136 post (nI i) (nI j) (nI r) (nI (lv (T r))) (nI (T r - 10)) (nI (kd (lv (T r)))) 0 z m K L M X R s v o fr tu kf kt pn := fun h => br_t rfl (H0 h)
  refine ⟨vp_in_nI (by omega) (by omega), nm_r eR (my_str i r rfl rfl (by omega) (by omega) (fun a ha => my_str (r + 1) j (nI_1 r) rfl (by omega) hj (fun b hb => ⟨vp_in_nI (by omega) (by omega), nm_r eK ?_⟩)))⟩
  by_cases k3 : kd (lv (T r)) = 3
  · have m2 := mx_n2k (kd := kd) (k := lv (T r)) (by omega) (by omega)
    refine br_t (congrArg nI k3) (pk_eq r i (fun e => my_if (my_lt hb (by omega)) (fun c => G0 ?_) (fun c => G1 ?_)) (fun e => G0 ?_))
    · intro hF
      have q := hF.2.2.2.2.2
      omega
    · exact ⟨hi, hr, h10, h18, Or.inl ⟨k3, e⟩, Or.inr ⟨by omega, by omega⟩⟩
    · intro hF
      have q := hF.2.2.2.2.1
      omega
  · have n3 : ¬ nI (kd (lv (T r))) = 3 := fun e => k3 ((nI_eq (b := 3) (by omega) (by decide)).mp e)
    refine br_f n3 ?_
    by_cases k4 : kd (lv (T r)) = 4
    · have m1 := mx_n1k (kd := kd) (k := lv (T r)) (by omega) (by omega)
      refine br_t (congrArg nI k4) (pk_eq r (j - 1) (fun e => my_if (my_lt ha (by omega)) (fun c => G0 ?_) (fun c => G1 ?_)) (fun e => G0 ?_) rfl (pk_sub (b := 1) (by omega)))
      · intro hF
        have q := hF.2.2.2.2.1
        omega
      · exact ⟨hi, hr, h10, h18, Or.inr ⟨k3, by omega⟩, Or.inl ⟨k4, by omega⟩⟩
      · intro hF
        have q := hF.2.2.2.2.2
        omega
    · have n4 : ¬ nI (kd (lv (T r))) = 4 := fun e => k4 ((nI_eq (b := 4) (by omega) (by decide)).mp e)
      refine br_f n4 ?_
      have bad1 : mx_S s i r < mx_n1 kd (lv (T r)) → ¬ mx_F lv kd T (mx_S s) i r j := by
        intro c hF
        have q := hF.2.2.2.2.1
        omega
      have bad2 : mx_S s (r + 1) j < mx_n2 kd (lv (T r)) → ¬ mx_F lv kd T (mx_S s) i r j := by
        intro c hF
        have q := hF.2.2.2.2.2
        omega
      have good : ¬ mx_S s i r < mx_n1 kd (lv (T r)) → ¬ mx_S s (r + 1) j < mx_n2 kd (lv (T r)) → mx_F lv kd T (mx_S s) i r j :=
        fun c d => ⟨hi, hr, h10, h18, Or.inr ⟨k3, by omega⟩, Or.inr ⟨k4, by omega⟩⟩
      by_cases k0 : kd (lv (T r)) = 0
      · have m1 := mx_n1k (kd := kd) (k := lv (T r)) (by omega) (by omega)
        have m2 := mx_n2s (kd := kd) (k := lv (T r)) (by omega)
        have q1 : ¬ nI (kd (lv (T r))) = 1 := fun e => absurd ((nI_eq (b := 1) (by omega) (by decide)).mp e) (by omega)
        exact br_t (congrArg nI k0) (my_if (my_lt ha (by omega)) (fun c => G0 (bad1 (by omega))) (fun c => br_f q1 (my_if (my_lt1 hb (by omega)) (fun d => G0 (bad2 (by omega))) (fun d => G1 (good (by omega) (by omega))))))
      · have q0 : ¬ nI (kd (lv (T r))) = 0 := fun e => k0 ((nI_eq (b := 0) (by omega) (by decide)).mp e)
        have m1 := mx_n1s (kd := kd) (k := lv (T r)) (by omega)
        refine br_f q0 (my_if (my_lt1 ha (by omega)) (fun c => G0 (bad1 (by omega))) (fun c => ?_))
        by_cases k1 : kd (lv (T r)) = 1
        · have m2 := mx_n2k (kd := kd) (k := lv (T r)) (by omega) (by omega)
          exact br_t (congrArg nI k1) (my_if (my_lt hb (by omega)) (fun d => G0 (bad2 (by omega))) (fun d => G1 (good (by omega) (by omega))))
        · have q1 : ¬ nI (kd (lv (T r))) = 1 := fun e => k1 ((nI_eq (b := 1) (by omega) (by decide)).mp e)
          have m2 := mx_n2s (kd := kd) (k := lv (T r)) (by omega)
          exact br_f q1 (my_if (my_lt1 hb (by omega)) (fun d => G0 (bad2 (by omega))) (fun d => G1 (good (by omega) (by omega))))
theorem my_lv3 (hG : mx_G lv kd mn K L M) {post : Int32 → SY → Prop} {i j k m0 : Nat} (hm : j ≤ m0) (h16 : m0 ≤ 16) (hA : mx_A R T m0) (hk : k < 5)
    (H1 : ∀ r, mx_F lv kd T (mx_S s) i r j → lv (T r) = k → post 1 (z, m, K, L, M, X, R, (upd s (17 * i + j) (nI (lv (T r)))), (upd v (17 * i + j) (mx_jv lv kd mn T (mx_V v) i r j)), (upd o (17 * i + j) (nI r)), fr, tu, kf, kt, pn))
    (H0 : (∀ r, mx_F lv kd T (mx_S s) i r j → lv (T r) ≠ k) → post 0 (z, m, K, L, M, X, R, s, v, o, fr, tu, kf, kt, pn)) :
    ∀ d r, r + d = j → i ≤ r → (∀ x, x < r → mx_F lv kd T (mx_S s) i x j → lv (T x) ≠ k) → wY_tryLevel_3 post (nI i) (nI j) (nI k) (d + 1) (nI r) z m K L M X R s v o fr tu kf kt pn := by
  have hG' := hG
  obtain ⟨g1, g2, g3, g4, g5⟩ := hG
  intro d
  induction d with
  | zero =>
    intro r hr hi hb
    refine br_t (nI_le (by omega) (by omega)) (H0 (fun x hF => hb x ?_ hF))
    have := hF.2.1
    omega
  | succ d ih =>
    intro r hr hi hb
    have hR : R (nI r).toNatClampNeg = nI (T r) := by rw [nI_clamp (by omega)]; exact hA.1 r (by omega)
    have hT := hA.2 r
    have ir : vp_in (nI r) 16 := vp_in_nI (by omega) (by omega)
    have nx : (mx_F lv kd T (mx_S s) i r j → lv (T r) ≠ k) → wY_tryLevel_3 post (nI i) (nI j) (nI k) (d + 1) (nI (r + 1)) z m K L M X R s v o fr tu kf kt pn := by
      intro hn
      refine ih (r + 1) (by omega) (by omega) (fun x hx hF => ?_)
      by_cases e : x = r
      · subst e
        exact hn hF
      · exact hb x (by omega) hF
    refine br_f (nI_ge (by omega) (by omega)) ⟨ir, my_if (d := T r ≤ 9) (by rw [hR]; exact nI_leI (b := 9) (by omega) (by decide)) (fun c => nm_r (nI_1 r) (nx (fun hF => ?_))) (fun c => ⟨ir, my_if (d := 18 ≤ T r) (by rw [hR]; exact nI_leI (a := 18) (by decide) (by omega)) (fun c2 => nm_r (nI_1 r) (nx (fun hF => ?_))) (fun c2 => ?_)⟩)⟩
    · have := hF.2.2.1
      omega
    · have := hF.2.2.2.1
      omega
    · have e10 : R (nI r).toNatClampNeg - 10 = nI (T r - 10) := by
        rw [hR]
        exact pk_sub (b := 10) (by omega)
      have eL : L (R (nI r).toNatClampNeg - 10).toNatClampNeg = nI (lv (T r)) := by
        rw [e10, nI_clamp (by omega)]
        exact g4 _ (by omega) (by omega)
      have l5 := g2 (T r)
      refine ⟨ir, by rw [e10]; exact vp_in_nI (by omega) (by omega), my_if (d := lv (T r) = k) (by rw [eL]; exact nI_eq (by omega) (by omega)) (fun c3 => ?_) (fun c3 => nm_r (nI_1 r) (nx (fun _ => c3)))⟩
      refine my_try hG' (by omega) hi (by omega) (hA.1 r (by omega)) (by omega) (by omega) c3 (fun hF => ?_) (fun hF => ?_)
      · refine br_f (by decide) ?_
        have h1 := H1 r hF c3
        rw [c3] at h1
        exact h1
      · exact br_t rfl (nm_r (nI_1 r) (nx (fun z => absurd z hF)))
theorem my_lv (hG : mx_G lv kd mn K L M) {post : Int32 → SY → Prop} {i j k m0 : Nat} (hij : i < j) (hm : j ≤ m0) (h16 : m0 ≤ 16) (hA : mx_A R T m0) (hk : k < 5)
    (H1 : ∀ r, mx_F lv kd T (mx_S s) i r j → lv (T r) = k → post 1 (z, m, K, L, M, X, R, (upd s (17 * i + j) (nI (lv (T r)))), (upd v (17 * i + j) (mx_jv lv kd mn T (mx_V v) i r j)), (upd o (17 * i + j) (nI r)), fr, tu, kf, kt, pn))
    (H0 : (∀ r, mx_F lv kd T (mx_S s) i r j → lv (T r) ≠ k) → post 0 (z, m, K, L, M, X, R, s, v, o, fr, tu, kf, kt, pn)) : wpY_tryLevel post (z, m, K, L, M, X, R, s, v, o, fr, tu, kf, kt, pn) (nI i) (nI j) (nI k) :=
  ⟨j - i + 1, my_lv3 hG hm h16 hA hk H1 H0 (j - i) i (by omega) (Nat.le_refl _) (fun x hx hF => absurd hF.1 (by omega))⟩
theorem my_rs (hG : mx_G lv kd mn K L M) {post : SY → Prop} {i j m0 : Nat} (hij : i < j) (hm : j ≤ m0) (h16 : m0 ≤ 16) (hA : mx_A R T m0)
    (H1 : ∀ r, mx_F lv kd T (mx_S s) i r j → post (z, m, K, L, M, X, R, (upd s (17 * i + j) (nI (lv (T r)))), (upd v (17 * i + j) (mx_jv lv kd mn T (mx_V v) i r j)), (upd o (17 * i + j) (nI r)), fr, tu, kf, kt, pn))
    (H0 : (∀ r, ¬ mx_F lv kd T (mx_S s) i r j) → post (z, m, K, L, M, X, R, s, v, o, fr, tu, kf, kt, pn)) :
    ∀ k, k < 5 → (∀ r, mx_F lv kd T (mx_S s) i r j → lv (T r) ≤ k) → wY_readStretch_108 post (nI i) (nI j) (k + 2) (nI k) z m K L M X R s v o fr tu kf kt pn := by
  intro k
  induction k with
  | zero =>
    intro _ hb
    refine br_f (nI_pos (by omega)) (my_lv hG hij hm h16 hA (by omega) (fun r hF e => br_f (by decide) (H1 r hF)) (fun hn => br_t rfl (nm_r (e' := -1) (by decide) (br_t (by decide) (H0 (fun r hF => ?_))))))
    have h1 := hb r hF
    have h2 := hn r hF
    omega
  | succ k ih =>
    intro h5 hb
    refine br_f (nI_pos (by omega)) (my_lv hG hij hm h16 hA h5 (fun r hF e => br_f (by decide) (H1 r hF)) (fun hn => br_t rfl (nm_r (pk_m1 k) (ih (by omega) (fun r hF => ?_)))))
    have h1 := hb r hF
    have h2 := hn r hF
    omega
theorem my_rst (hG : mx_G lv kd mn K L M) {post : SY → Prop} {y : Int32} {i j m0 : Nat} (hy : y = nI j) (hij : i < j) (hm : j ≤ m0) (h16 : m0 ≤ 16) (hA : mx_A R T m0)
    (H : ∀ s' v' o', mx_U s s' i j → mx_U v v' i j → mx_U o o' i j → mx_C lv kd mn T (-2) (mx_S s') (mx_V v') (mx_O o') i j → post (z, m, K, L, M, X, R, s', v', o', fr, tu, kf, kt, pn)) : wpY_readStretch post (z, m, K, L, M, X, R, s, v, o, fr, tu, kf, kt, pn) (nI i) y := by
  subst hy
  have hG' := hG
  obtain ⟨g1, g2, g3, g4, g5⟩ := hG
  have j16 : j ≤ 16 := by omega
  have us : ∀ a : Int32, mx_U s (upd (upd s (17 * i + j) (-1)) (17 * i + j) a) i j := fun a => mx_Ut (mx_Uu j16) (mx_Uu j16)
  have uv : ∀ a : Int32, mx_U v (upd (upd v (17 * i + j) 0) (17 * i + j) a) i j := fun a => mx_Ut (mx_Uu j16) (mx_Uu j16)
  have uo : ∀ a : Int32, mx_U o (upd (upd o (17 * i + j) (-4)) (17 * i + j) a) i j := fun a => mx_Ut (mx_Uu j16) (mx_Uu j16)
  have u1 : mx_U s (upd s (17 * i + j) (-1)) i j := mx_Uu j16
  have v1 : mx_U v (upd v (17 * i + j) 0) i j := mx_Uu j16
  have o1 : mx_U o (upd o (17 * i + j) (-4)) i j := mx_Uu j16
  have hRi : R (nI i).toNatClampNeg = nI (T i) := by rw [nI_clamp (by omega)]; exact hA.1 i (by omega)
  have eJ : nI j - 1 = nI (j - 1) := pk_sub (b := 1) (by omega)
  have hRj : R (nI j - 1).toNatClampNeg = nI (T (j - 1)) := by rw [eJ, nI_clamp (by omega)]; exact hA.1 (j - 1) (by omega)
  have ti := hA.2 i
  have tj := hA.2 (j - 1)
  have ii : vp_in (nI i) 16 := vp_in_nI (by omega) (by omega)
  have rest : ¬ (j = i + 1 ∧ T i < 10) → ¬ mx_B T (mx_S s) i j → ∃ n, wY_readStretch_108 post (nI i) (nI j) n 4 z m K L M X R (upd s (17 * i + j) (-1)) (upd v (17 * i + j) 0) (upd o (17 * i + j) (-4)) fr tu kf kt pn := by
    intro c1 c2
    refine ⟨4 + 2, my_rs hG' hij hm h16 hA (fun r hF => ?_) (fun hn => ?_) 4 (by omega) (fun r _ => ?_)⟩
    · have hF' := (mx_UF j16 u1).mp hF
      have p1 := hF.1
      have p2 := hF.2.1
      refine H _ _ _ (us _) (uv _) (uo _) (mx_mF j16 (us _) (uv _) hF' (g2 _) pk_us pk_us ?_)
      rw [pk_us]
      exact mx_jvt rfl (fun _ => v1 i r (by omega) (by omega)) (fun _ => v1 (r + 1) j (by omega) (by omega))
    · exact H _ _ _ u1 v1 o1 (mx_m0 j16 hij u1 pk_us c1 c2 (fun r hF => hn r ((mx_UF j16 u1).mpr hF)))
    · have := g2 (T r)
      omega
  have br : ¬ (j = i + 1 ∧ T i < 10) → wY_readStretch_43 post (nI i) (nI j) z m K L M X R (upd s (17 * i + j) (-1)) (upd v (17 * i + j) 0) (upd o (17 * i + j) (-4)) fr tu kf kt pn := by
    intro c1
    refine ⟨ii, my_if (d := T i = 18) (by rw [hRi]; exact nI_eq (b := 18) (by omega) (by decide)) (fun c2 => ⟨by rw [eJ]; exact vp_in_nI (by omega) (by omega), my_if (d := T (j - 1) = 19) (by rw [hRj]; exact nI_eq (b := 19) (by omega) (by decide)) (fun c3 => ?_) (fun c3 => ?_)⟩) (fun c2 => ?_)⟩
    · refine my_str (i + 1) (j - 1) (nI_1 i) eJ (by omega) (by omega) (fun a ha => my_if (my_lt0 ha) (fun c4 => ?_) (fun c4 => ?_))
      · refine rest c1 (fun hB => ?_)
        have b3 := ((mx_UB j16 u1).mpr hB).2.2
        omega
      · have hB : mx_B T (mx_S s) i j := (mx_UB j16 u1).mp ⟨c2, c3, by omega⟩
        have e3 : ((17 : Int32) * nI i + 17 + nI j) - 1 = nI (17 * (i + 1) + (j - 1)) := by
          rw [my_17b i j]
          refine (pk_sub (b := 1) (by omega)).trans (congrArg nI (by omega))
        refine ⟨by rw [e3]; exact vp_in_nI (by omega) (by omega), my_set i j rfl rfl (by omega) j16 (H _ _ _ (us _) (uv _) (uo _) (mx_mB j16 (us _) (uv _) hB pk_us ?_ ?_))⟩
        · rw [pk_us]
          decide
        · rw [pk_us, e3, nI_clamp (by omega)]
          exact v1 (i + 1) (j - 1) (by omega) (by omega)
    · refine rest c1 (fun hB => c3 hB.2.1)
    · refine rest c1 (fun hB => c2 hB.1)
  unfold wpY_readStretch
  refine my_set i j rfl rfl (by omega) j16 ?_
  refine my_if (d := j = i + 1) (by rw [nI_1]; exact nI_eq (by omega) (by omega)) (fun c => ⟨ii, my_if (d := 10 ≤ T i) (by rw [hRi]; exact nI_leI (a := 10) (by decide) (by omega)) (fun c2 => br (by omega)) (fun c2 => ⟨ii, ?_⟩)⟩) (fun c => br (fun z => c z.1))
  refine my_set i j rfl rfl (by omega) j16 (H _ _ _ (us _) (uv _) (uo _) (mx_mN c (by omega) pk_us pk_us ?_))
  rw [pk_us]
  exact hRi
end
