/-! both sides' tables are the same; the walks down -/
section
variable {lv kd : Nat → Nat} {mn : Nat → Int32} {T : Nat → Nat} {n : Nat} {S S' : Nat → Nat → Int} {V V' : Nat → Nat → Int32} {O O' : Nat → Nat → Int}
theorem mw_eq {cb cb' : Int} (hk : ∀ k, kd k < 5) (h : mx_T lv kd mn T n cb S V O) (h' : mx_T lv kd mn T n cb' S' V' O') {i j : Nat} (hj : j ≤ n) :
    S' i j = S i j ∧ (0 ≤ S' i j → V' i j = V i j ∧ ((0 ≤ O' i j ∧ O i j = O' i j) ∨ (O' i j = -1 ∧ O i j = -1) ∨ (O' i j = cb' ∧ O i j = cb))) := by
  have t := mx_tr hk h h' (a := 0) (b := n) (c := 0) (Nat.le_refl _) (Nat.le_refl _) (fun x _ _ => rfl) j i j (by omega) (Nat.zero_le _) hj
  refine ⟨t.1, fun h0 => ⟨(t.2 h0).1, ?_⟩⟩
  rcases (t.2 h0).2 with ⟨c1, c2⟩ | c | c
  · refine Or.inl ⟨c1, ?_⟩
    have c3 : O i j = O' i j + ((0 : Nat) : Int) := c2
    omega
  · exact Or.inr (Or.inl c)
  · exact Or.inr (Or.inr c)
theorem mw_eqK {cb cb' : Int} (hk : ∀ k, kd k < 5) (h : mx_T lv kd mn T n cb S V O) (h' : mx_T lv kd mn T n cb' S' V' O') (hcb : cb < 0) (hcb' : cb' < 0) {x d i j f t : Nat} {m q : Int} (hj : j ≤ n) (h0 : 0 ≤ S' i j) (hi : i ≤ x) (hx : x < j)
    (hK : mx_K lv kd T O x d i j m f t q) : mx_K lv kd T O' x d i j m f t q := by
  obtain ⟨f', t', e1, e2, hK'⟩ := mx_tK hk h h' hcb hcb' (a := 0) (b := n) (c := 0) (x := x) (Nat.le_refl _) (Nat.le_refl _) (fun x _ _ => rfl) d i j m f t q (Nat.zero_le _) hj h0 hi hx hK
  have e1' : f = f' := e1
  have e2' : t = t' := e2
  rw [e1', e2']
  exact hK'
theorem mw_Ku {x : Nat} : ∀ d d' i j m f t q f' t' q', mx_K lv kd T O x d i j m f t q → mx_K lv kd T O x d' i j m f' t' q' → f' = f ∧ t' = t ∧ q' = q := by
  intro d
  induction d with
  | zero =>
    intro d' i j m f t q f' t' q' h h'
    obtain ⟨h1, h2, h3, h4⟩ := h
    cases d' with
    | zero =>
      obtain ⟨k1, k2, k3, k4⟩ := h'
      exact ⟨k2.trans h2.symm, k3.trans h3.symm, k4.trans h4.symm⟩
    | succ d' =>
      obtain ⟨a, b, c, e, _⟩ := h'
      rw [h1] at e
      cases e
  | succ d ih =>
    intro d' i j m f t q f' t' q' h h'
    obtain ⟨a, b, c, e, hK⟩ := h
    cases d' with
    | zero =>
      obtain ⟨k1, _⟩ := h'
      rw [e] at k1
      cases k1
    | succ d' =>
      obtain ⟨a2, b2, c2, e2, hK2⟩ := h'
      rw [e] at e2
      cases e2
      exact ih d' a b c f t q f' t' q' hK hK2
end
section
variable {z : Int32} {K L M X R fr tu kf kt pn : Nat → Int32} {wa wb wc : Int32} {X2 : Nat → Int32} {lv kd : Nat → Nat} {mn : Nat → Int32} {T : Nat → Nat} {n : Nat} {s v o s2 v2 o2 : Nat → Int32}
theorem mw_root (hk : ∀ k, kd k < 5) (h2 : mx_T lv kd mn T n (-1) (mx_S s2) (mx_V v2) (mx_O o2)) (hn : n ≤ 16) :
    ∀ d i, n ≤ i + i + d → i + i < n → 0 ≤ mx_S s2 i (n - i) → ∃ a : Int32,
      (∀ post : Int32 → SX → Prop, post a ((nI n), wa, wb, wc, K, L, M, X2, s2, o2, v2) → wX_root_16 post (nI n) wa wb wc K L M X2 s2 o2 v2 (d + 1) (nI i)) ∧
      (∀ (z : Int32) (K L M X R s v o fr tu kf kt pn : Nat → Int32), mx_T lv kd mn T n (-2) (mx_S s) (mx_V v) (mx_O o) → ∀ post : Int32 → SY → Prop, post a (z, (nI n), K, L, M, X, R, s, v, o, fr, tu, kf, kt, pn) → wY_root_12 post z (nI n) K L M X R s v o fr tu kf kt pn (d + 1) (nI i)) := by
  intro d
  induction d with
  | zero =>
    intro i h1 h3 _
    omega
  | succ d ih =>
    intro i h1 h3 h0
    have eY : (17 : Int32) * nI i + nI n - nI i = nI (17 * i + (n - i)) := by
      rw [my_17, pk_sub (by omega)]
      exact congrArg nI (by omega)
    have eX : nI i * (17 : Int32) + nI n - nI i = nI (17 * i + (n - i)) := by
      rw [mz_17, pk_sub (by omega)]
      exact congrArg nI (by omega)
    have cq : (nI (17 * i + (n - i))).toNatClampNeg = 17 * i + (n - i) := nI_clamp (by omega)
    have iq : vp_in (nI (17 * i + (n - i))) 289 := vp_in_nI (by omega) (by omega)
    have iY : vp_in ((17 : Int32) * nI i + nI n - nI i) 289 := by rw [eY]; exact iq
    have iX : vp_in (nI i * (17 : Int32) + nI n - nI i) 289 := by rw [eX]; exact iq
    have oY : ∀ o : Nat → Int32, (o ((17 : Int32) * nI i + nI n - nI i).toNatClampNeg).toInt = mx_O o i (n - i) := fun o => by rw [eY, cq]; rfl
    have oX : (o2 (nI i * (17 : Int32) + nI n - nI i).toNatClampNeg).toInt = mx_O o2 i (n - i) := by rw [eX, cq]; rfl
    have lX : ¬ nI n - nI i ≤ nI i := by
      rw [pk_sub (by omega)]
      exact nI_ge (by omega) (by omega)
    obtain ⟨_, cs⟩ := mx_vw h2 (by omega) h0
    rcases cs with ⟨a1, a2, a3, a4⟩ | ⟨hB, a3, a4, a5⟩ | ⟨r, hF, a3, a4⟩
    · refine ⟨-4, fun post hp => br_f lX ⟨iX, nm_e (br_t ((my_em1 oX).mpr a3) (nm_r (nI_1 i) (br_t ?_ hp)))⟩, fun z K L M X R s v o fr tu kf kt pn h post hp => ?_⟩
      · rw [pk_sub (by omega)]
        exact nI_le (by omega) (by omega)
      · have o3 := (mx_rdN h (by omega) a1 a2).2.1
        exact ⟨iY, my_if (my_em2 (oY o)) (fun c => by omega) (fun _ => ⟨iY, nm_e (my_if (my_le0 (oY o)) (fun c => by omega) (fun _ => hp))⟩)⟩
    · have e : n - i - 1 = n - (i + 1) := by omega
      have b3 := hB.2.2
      rw [e] at b3
      obtain ⟨a, hx, hy⟩ := ih (i + 1) (by omega) (by omega) b3
      refine ⟨a, fun post hp => br_f lX ⟨iX, nm_e (br_t ((my_em1 oX).mpr a3) (nm_r (nI_1 i) (hx post hp)))⟩, fun z K L M X R s v o fr tu kf kt pn h post hp => ?_⟩
      have hB' : mx_B T (mx_S s) i (n - i) := ⟨hB.1, hB.2.1, by rw [(mw_eq hk h2 h (by omega)).1]; exact hB.2.2⟩
      have o3 := (mx_rdB h (by omega) hB').2.1
      exact ⟨iY, br_t ((my_em2 (oY o)).mpr o3) (nm_r (nI_1 i) (hy z K L M X R s v o fr tu kf kt pn h post hp))⟩
    · have p2 := hF.2.1
      have rX := my_nI (oX.trans a3) (by omega)
      refine ⟨nI r, fun post hp => br_f lX ⟨iX, nm_r rX (br_f (fun c => ?_) hp)⟩, fun z K L M X R s v o fr tu kf kt pn h post hp => ?_⟩
      · have := (my_em1 (nI_toInt (n := r) (by omega))).mp c
        omega
      · have eqs := mw_eq hk h2 h (i := i) (j := n - i) (by omega)
        have o3 : mx_O o i (n - i) = (r : Int) := by
          rcases (eqs.2 (by rw [eqs.1]; exact h0)).2 with ⟨c1, c2⟩ | ⟨c1, c2⟩ | ⟨c1, c2⟩ <;> omega
        have rY := my_nI ((oY o).trans o3) (by omega)
        refine ⟨iY, br_f (fun c => ?_) ⟨iY, nm_r rY (br_t (nI_pos' (by omega)) hp)⟩⟩
        have := (my_em2 (oY o)).mp c
        omega
theorem mw_dY (h : mx_T lv kd mn T n (-2) (mx_S s) (mx_V v) (mx_O o)) (hn : n ≤ 16) {p : Nat} {m : Int32} {post : Int32 → SY → Prop} :
    ∀ d e i j q f t q', j ≤ n → 0 ≤ mx_S s i j → i ≤ p → p < j → mx_K lv kd T (mx_O o) p d i j q f t q' → e + d < 20 → post (nI (e + d)) (z, m, K, L, M, X, R, s, v, o, fr, tu, kf, kt, pn) → wY_depth_35 post (nI p) z m K L M X R s v o fr tu kf kt pn (d + 1) (nI i) (nI j) (nI e) (nI e) := by
  have key : ∀ i j, j ≤ n → 0 ≤ mx_S s i j → i ≤ p → p < j → i < j ∧ vp_in ((17 : Int32) * nI i + nI j) 289 ∧ o ((17 : Int32) * nI i + nI j).toNatClampNeg = o (17 * i + j) := by
    intro i j h1 h2 h3 h4
    refine ⟨by omega, ?_, ?_⟩
    · rw [my_17]
      exact vp_in_nI (by omega) (by omega)
    · rw [my_17, nI_clamp (by omega)]
  intro d
  induction d with
  | zero =>
    intro e i j q f t q' h1 h2 h3 h4 hK he hp
    obtain ⟨k1, _, _, _⟩ := hK
    obtain ⟨y1, y2, y3⟩ := key i j h1 h2 h3 h4
    have hp' : post (nI e) (z, m, K, L, M, X, R, s, v, o, fr, tu, kf, kt, pn) := hp
    obtain ⟨_, cs⟩ := mx_vw h h1 h2
    refine br_f (nI_ge (b := 20) (by omega) (by decide)) ⟨y2, nm_r y3 ?_⟩
    have oO : (o (17 * i + j)).toInt = mx_O o i j := rfl
    rcases cs with ⟨a1, a2, a3, a4⟩ | ⟨hB, a3, a4, a5⟩ | ⟨r, hF, a3, a4⟩
    · exact my_if (my_em2 oO) (fun c => by omega) (fun _ => br_t ((my_em1 oO).mpr a3) hp')
    · have e2 := (my_em2 oO).mpr a3
      have n1 : ¬ o (17 * i + j) = -1 := fun c => by
        have := (my_em1 oO).mp c
        omega
      have n2 : ¬ o (17 * i + j) = nI p := fun c => by
        rw [c, nI_toInt (by omega)] at oO
        omega
      refine br_t e2 (pk_eq p i (fun c => br_f n1 (br_f n2 (br_f (by decide) hp'))) (fun c => pk_eq p (j - 1) (fun c2 => br_f n1 (br_f n2 (br_f (by decide) hp'))) (fun c2 => ?_) rfl (pk_sub (b := 1) (by omega))))
      rw [mx_sB (by omega) c (by omega)] at k1
      cases k1
    · have e2 := my_nI (oO.trans a3) (by have := hF.2.1; omega)
      have e3 : p = r := by
        by_cases c1 : p < r
        · rw [mx_sL a3 c1] at k1
          cases k1
        · by_cases c2 : p = r
          · exact c2
          · rw [mx_sR a3 (by omega)] at k1
            cases k1
      have n1 : ¬ o (17 * i + j) = -1 := fun c => by
        have := (my_em1 oO).mp c
        omega
      refine my_if (my_em2 oO) (fun c => by omega) (fun _ => br_f n1 (br_t ?_ hp'))
      rw [e2, e3]
  | succ d ih =>
    intro e i j q f t q' h1 h2 h3 h4 hK he hp
    obtain ⟨i', j', m', hs, hK⟩ := hK
    obtain ⟨b1, b2, b3, b4, b5, b6, b7⟩ := mx_pg h (by decide) h1 h2 h3 h4 hs
    obtain ⟨y1, y2, y3⟩ := key i j h1 h2 h3 h4
    have hp' : post (nI (e + 1 + d)) (z, m, K, L, M, X, R, s, v, o, fr, tu, kf, kt, pn) := by
      have e1 : e + 1 + d = e + (d + 1) := by omega
      rw [e1]
      exact hp
    have go := ih (e + 1) i' j' m' f t q' (by omega) (by omega) b3 b4 hK (by omega) hp'
    obtain ⟨_, cs⟩ := mx_vw h h1 h2
    refine br_f (nI_ge (b := 20) (by omega) (by decide)) ⟨y2, nm_r y3 ?_⟩
    have oO : (o (17 * i + j)).toInt = mx_O o i j := rfl
    rcases cs with ⟨a1, a2, a3, a4⟩ | ⟨hB, a3, a4, a5⟩ | ⟨r, hF, a3, a4⟩
    · rw [mx_sN (by omega) (by omega)] at hs
      cases hs
    · have e2 := (my_em2 oO).mpr a3
      have n1 : ¬ o (17 * i + j) = -1 := fun c => by
        have := (my_em1 oO).mp c
        omega
      have n2 : ¬ o (17 * i + j) = nI p := fun c => by
        rw [c, nI_toInt (by omega)] at oO
        omega
      by_cases c : p = i ∨ p + 1 = j
      · rw [mx_sN (by omega) c] at hs
        cases hs
      · rw [mx_sB (by omega) (by omega) (by omega)] at hs
        obtain ⟨rfl, rfl, rfl⟩ := mx_s3 hs
        refine br_t e2 (pk_eq p i (fun c1 => by omega) (fun c1 => pk_eq p (j - 1) (fun c2 => by omega) (fun c2 => ?_) rfl (pk_sub (b := 1) (by omega))))
        exact br_f n1 (br_f n2 (br_t rfl (nm_r (nI_1 e) (br_t e2 (nm_r (nI_1 i) (nm_r (sb_m1 (by omega)) (nm_r (nI_1 e) go)))))))
    · have p2 := hF.2.1
      have e2 := my_nI (oO.trans a3) (by omega)
      have n1 : ¬ o (17 * i + j) = -1 := fun c => by
        have := (my_em1 oO).mp c
        omega
      have n22 : ¬ o (17 * i + j) = -2 := fun c => by
        have := (my_em2 oO).mp c
        omega
      have n3 : p ≠ r → ¬ o (17 * i + j) = nI p := fun hpr c => by
        rw [e2] at c
        have := (nI_eq (by omega) (by omega)).mp c
        omega
      refine br_f n22 ?_
      by_cases c1 : p < r
      · rw [mx_sL a3 c1] at hs
        obtain ⟨rfl, rfl, rfl⟩ := mx_s3 hs
        refine br_f n1 (br_f (n3 (by omega)) (br_t rfl (nm_r (nI_1 e) (br_f n22 (br_f ?_ (nm_r (nI_1 e) ?_))))))
        · rw [e2]
          exact nI_ge c1 (by omega)
        · rw [e2]
          exact go
      · by_cases c2 : p = r
        · rw [c2, mx_sE a3] at hs
          cases hs
        · rw [mx_sR a3 (by omega)] at hs
          obtain ⟨rfl, rfl, rfl⟩ := mx_s3 hs
          refine br_f n1 (br_f (n3 c2) (br_t rfl (nm_r (nI_1 e) (br_f n22 (br_t ?_ (nm_r (e' := nI (r + 1)) ?_ (nm_r (nI_1 e) go)))))))
          · rw [e2]
            exact nI_le (by omega) (by omega)
          · rw [e2, nI_1]
end
section
variable {z : Int32} {K L M X : Nat → Int32} {lv kd : Nat → Nat} {mn : Nat → Int32} {T : Nat → Nat} {n : Nat} {s v o : Nat → Int32}
theorem mw_sd (hG : mx_G lv kd mn K L M) (h : mx_T lv kd mn T n (-1) (mx_S s) (mx_V v) (mx_O o)) (hn : n ≤ 16) (hA : mx_A X T n) {p i j : Nat} {wc : Int32} {post : Int32 → SX → Prop} (h1 : j ≤ n) (h2 : 0 ≤ mx_S s i j) (h3 : i ≤ p) (h4 : p < j)
    (Hn : mx_s lv kd T (mx_O o) p i j = none → post 0 (z, (nI i), (nI j), wc, K, L, M, X, s, o, v))
    (Hs : ∀ i' j' m' w', mx_s lv kd T (mx_O o) p i j = some (i', j', m') → w'.toInt = m' → post 1 (z, (nI i'), (nI j'), w', K, L, M, X, s, o, v)) : wpX_stepDown post (z, (nI i), (nI j), wc, K, L, M, X, s, o, v) (nI p) := by
  have iq : vp_in (nI i * (17 : Int32) + nI j) 289 := by
    rw [mz_17]
    exact vp_in_nI (by omega) (by omega)
  have eq : o (nI i * (17 : Int32) + nI j).toNatClampNeg = o (17 * i + j) := by rw [mz_17, nI_clamp (by omega)]
  have oO : (o (17 * i + j)).toInt = mx_O o i j := rfl
  have br : mx_O o i j < 0 → wpX_stepIntoBrackets (fun r u => match u with | (z9, wa9, wb9, wc9, K9, L9, M9, X9, s9, o9, v9) => (narrow .boolean (.int r) = .int r ∧ (post r (z9, wa9, wb9, wc9, K9, L9, M9, X9, s9, o9, v9)))) (z, (nI i), (nI j), wc, K, L, M, X, s, o, v) (nI p) := by
    intro hO
    refine pk_eq p i (fun c => ⟨rfl, Hn (mx_sN hO (Or.inl c))⟩) (fun c => pk_eq p (j - 1) (fun c2 => ⟨rfl, Hn (mx_sN hO (Or.inr (by omega)))⟩) (fun c2 => ?_) rfl (pk_sub (b := 1) (by omega)))
    exact nm_r (nI_1 i) (nm_r (e' := nI (j - 1)) (pk_sub (b := 1) (by omega)) ⟨rfl, Hs (i + 1) (j - 1) 0 0 (mx_sB hO c (by omega)) (by decide)⟩)
  refine ⟨iq, nm_r eq ?_⟩
  obtain ⟨_, cs⟩ := mx_vw h h1 h2
  rcases cs with ⟨a1, a2, a3, a4⟩ | ⟨hB, a3, a4, a5⟩ | ⟨r, hF, a3, a4⟩
  · exact br_t ((my_em1 oO).mpr a3) (br (by omega))
  · exact br_t ((my_em1 oO).mpr a3) (br (by omega))
  · obtain ⟨p1, p2, p3, p4, _, _⟩ := hF
    have hG' := hG
    obtain ⟨g1, g2, g3, g4, g5⟩ := hG
    have l5 := g2 (T r)
    have e2 := my_nI (oO.trans a3) (by omega)
    rw [e2]
    have e10 : X (nI r).toNatClampNeg - 10 = nI (T r - 10) := by
      rw [nI_clamp (by omega), hA.1 r (by omega)]
      exact pk_sub (b := 10) p3
    have eL : L (X (nI r).toNatClampNeg - 10).toNatClampNeg = nI (lv (T r)) := by
      rw [e10, nI_clamp (by omega)]
      exact g4 _ p3 p4
    refine br_f (fun c => ?_) (pk_eq p r (fun c => Hn (by rw [c]; exact mx_sE a3)) (fun c => ⟨vp_in_nI (by omega) (by omega), by rw [e10]; exact vp_in_nI (by omega) (by omega), nm_r eL (pk_le r p (fun c2 => ?_) (fun c2 => ?_))⟩))
    · have := (my_em1 (nI_toInt (n := r) (by omega))).mp c
      omega
    · exact nm_r (nI_1 r) (mz_n2 hG' l5 (fun w' hw => Hs (r + 1) j _ w' (mx_sR a3 (by omega)) hw))
    · exact mz_n1 hG' l5 (fun w' hw => Hs i r _ w' (mx_sL a3 c2) hw)
theorem mw_wX (hG : mx_G lv kd mn K L M) (h : mx_T lv kd mn T n (-1) (mx_S s) (mx_V v) (mx_O o)) (hn : n ≤ 16) (hA : mx_A X T n) {p f t : Nat} {q : Int} {post : Int32 → SX → Prop} :
    ∀ d e i j m wc, j ≤ n → 0 ≤ mx_S s i j → i ≤ p → p < j → wc.toInt = m → mx_K lv kd T (mx_O o) p d i j m f t q → e + d < 16 →
      (∀ w' : Int32, w'.toInt = q → post (nI (e + d)) (z, (nI f), (nI t), w', K, L, M, X, s, o, v)) → wX_walkDown_20 post (nI p) (d + 1) (nI e) z (nI i) (nI j) wc K L M X s o v := by
  intro d
  induction d with
  | zero =>
    intro e i j m wc h1 h2 h3 h4 hw hK he H
    obtain ⟨k1, k2, k3, k4⟩ := hK
    refine br_f (nI_ge (b := 16) (by omega) (by decide)) (mw_sd hG h hn hA h1 h2 h3 h4 (fun _ => br_t rfl ?_) (fun i' j' m' w' hs _ => ?_))
    · rw [k2, k3] at H
      exact H wc (hw.trans k4.symm)
    · rw [k1] at hs
      cases hs
  | succ d ih =>
    intro e i j m wc h1 h2 h3 h4 hw hK he H
    obtain ⟨i2, j2, m2, hs2, hK⟩ := hK
    refine br_f (nI_ge (b := 16) (by omega) (by decide)) (mw_sd hG h hn hA h1 h2 h3 h4 (fun hs => ?_) (fun i' j' m' w' hs hw' => br_f (by decide) (nm_r (nI_1 e) ?_)))
    · rw [hs2] at hs
      cases hs
    · rw [hs2] at hs
      cases hs
      obtain ⟨b1, b2, b3, b4, b5, b6, b7⟩ := mx_pg h (by decide) h1 h2 h3 h4 hs2
      refine ih (e + 1) i2 j2 m2 w' (by omega) (by omega) b3 b4 hw' hK (by omega) ?_
      have e1 : e + 1 + d = e + (d + 1) := by omega
      rw [e1]
      exact H
theorem mw_wd (hG : mx_G lv kd mn K L M) (h : mx_T lv kd mn T n (-1) (mx_S s) (mx_V v) (mx_O o)) (hn : n ≤ 16) (hA : mx_A X T n) {p d f t : Nat} {q : Int} {wa wb wc : Int32} {post : Int32 → SX → Prop} (h0 : 0 ≤ mx_S s 0 n) (hp : p < n)
    (hK : mx_K lv kd T (mx_O o) p d 0 n 0 f t q) (H : ∀ w' : Int32, w'.toInt = q → post (nI d) ((nI n), (nI f), (nI t), w', K, L, M, X, s, o, v)) : wpX_walkDown post ((nI n), wa, wb, wc, K, L, M, X, s, o, v) (nI p) := by
  have hd := (mx_Kf h (by decide) d 0 n 0 f t q (Nat.le_refl _) h0 (Nat.zero_le _) hp h0 (Int.le_refl _) hK)
  refine ⟨d + 1, mw_wX hG h hn hA d 0 0 n 0 0 (Nat.le_refl _) h0 (Nat.zero_le _) hp (by decide) hK (by omega) ?_⟩
  rw [Nat.zero_add]
  exact H
end
