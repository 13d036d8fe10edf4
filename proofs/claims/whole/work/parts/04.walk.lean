/-! where the walk goes, and what taking a pair of brackets out does to it -/
section
variable {lv kd : Nat → Nat} {mn : Nat → Int32} {T : Nat → Nat} {n : Nat} {cb : Int} {S : Nat → Nat → Int} {V : Nat → Nat → Int32} {O : Nat → Nat → Int}
theorem mx_vw (h : mx_T lv kd mn T n cb S V O) {i j : Nat} (hj : j ≤ n) (h0 : 0 ≤ S i j) :
    i < j ∧ ((j = i + 1 ∧ T i < 10 ∧ O i j = -1 ∧ S i j = 5) ∨ (mx_B T S i j ∧ O i j = cb ∧ S i j = 5 ∧ i + 1 < j - 1) ∨ ∃ r, mx_F lv kd T S i r j ∧ O i j = (r : Int) ∧ S i j = (lv (T r) : Int)) := by
  have hij := mx_ps h h0
  refine ⟨hij, ?_⟩
  rcases h.2 i j hij hj with ⟨a1, a2, a3, a4, _⟩ | ⟨hB, a3, a4, _⟩ | ⟨r, hF, a3, a4, _⟩ | ⟨a3, _⟩
  · exact Or.inl ⟨a1, a2, a4, a3⟩
  · exact Or.inr (Or.inl ⟨hB, a4, a3, mx_ps h hB.2.2⟩)
  · exact Or.inr (Or.inr ⟨r, hF, a4, a3⟩)
  · omega
/-- one step goes into a smaller span that is an expression, as strong as its place asks for -/
theorem mx_pg (h : mx_T lv kd mn T n cb S V O) (hcb : cb < 0) {i j x i' j' : Nat} {m' : Int} (hj : j ≤ n) (h0 : 0 ≤ S i j) (hx : i ≤ x) (hy : x < j)
    (hs : mx_s lv kd T O x i j = some (i', j', m')) : i ≤ i' ∧ j' ≤ j ∧ i' ≤ x ∧ x < j' ∧ j' - i' < j - i ∧ 0 ≤ m' ∧ m' ≤ S i' j' := by
  obtain ⟨hij, c⟩ := mx_vw h hj h0
  rcases c with ⟨a1, a2, a3, a4⟩ | ⟨hB, a3, a4, a5⟩ | ⟨r, hF, a3, a4⟩
  · rw [mx_sN (by omega) (by omega)] at hs
    cases hs
  · by_cases e : x = i ∨ x + 1 = j
    · rw [mx_sN (by omega) e] at hs
      cases hs
    · rw [mx_sB (by omega) (by omega) (by omega)] at hs
      obtain ⟨rfl, rfl, rfl⟩ := mx_s3 hs
      have := hB.2.2
      refine ⟨by omega, by omega, by omega, by omega, by omega, by omega, by omega⟩
  · obtain ⟨p1, p2, p3, p4, hl, hr⟩ := hF
    have g1 := mx_n1g kd (lv (T r))
    have g2 := mx_n2g kd (lv (T r))
    by_cases e1 : x < r
    · rw [mx_sL a3 e1] at hs
      obtain ⟨rfl, rfl, rfl⟩ := mx_s3 hs
      refine ⟨by omega, by omega, by omega, by omega, by omega, by omega, by omega⟩
    · by_cases e2 : x = r
      · rw [e2, mx_sE a3] at hs
        cases hs
      · rw [mx_sR a3 (by omega)] at hs
        obtain ⟨rfl, rfl, rfl⟩ := mx_s3 hs
        refine ⟨by omega, by omega, by omega, by omega, by omega, by omega, by omega⟩
theorem mx_Kf (h : mx_T lv kd mn T n cb S V O) (hcb : cb < 0) {x : Nat} : ∀ d i j m f t q, j ≤ n → 0 ≤ S i j → i ≤ x → x < j → m ≤ S i j → 0 ≤ m → mx_K lv kd T O x d i j m f t q →
    i ≤ f ∧ t ≤ j ∧ f ≤ x ∧ x < t ∧ q ≤ S f t ∧ 0 ≤ q ∧ 0 ≤ S f t ∧ mx_s lv kd T O x f t = none ∧ d + (t - f) ≤ j - i := by
  intro d
  induction d with
  | zero =>
    intro i j m f t q h1 h2 h3 h4 h5 h6 hK
    obtain ⟨k1, k2, k3, k4⟩ := hK
    subst k2 k3 k4
    exact ⟨Nat.le_refl _, Nat.le_refl _, h3, h4, h5, h6, h2, k1, by omega⟩
  | succ d ih =>
    intro i j m f t q h1 h2 h3 h4 h5 h6 hK
    obtain ⟨i', j', m', e, hK⟩ := hK
    obtain ⟨a1, a2, a3, a4, a5, a6, a7⟩ := mx_pg h hcb h1 h2 h3 h4 e
    obtain ⟨b1, b2, b3, b4, b5, b6, b7, b8, b9⟩ := ih i' j' m' f t q (by omega) (by omega) a3 a4 a7 a6 hK
    exact ⟨by omega, by omega, b3, b4, b5, b6, b7, b8, by omega⟩
theorem mx_Ke (h : mx_T lv kd mn T n cb S V O) (hcb : cb < 0) {x : Nat} : ∀ w i j m, j ≤ i + w → j ≤ n → 0 ≤ S i j → i ≤ x → x < j → ∃ d f t q, mx_K lv kd T O x d i j m f t q := by
  intro w
  induction w with
  | zero =>
    intro i j m h1 _ _ _ _
    omega
  | succ w ih =>
    intro i j m h1 h2 h3 h4 h5
    cases hs : mx_s lv kd T O x i j with
    | none => exact ⟨0, i, j, m, hs, rfl, rfl, rfl⟩
    | some y =>
      obtain ⟨i', j', m'⟩ := y
      obtain ⟨a1, a2, a3, a4, a5, a6, a7⟩ := mx_pg h hcb h2 h3 h4 h5 hs
      obtain ⟨d, f, t, q, hK⟩ := ih i' j' m' (by omega) (by omega) (by omega) a3 a4
      exact ⟨d + 1, f, t, q, i', j', m', hs, hK⟩
/-- an operator's walk stops at a span that it is the last operator of -/
theorem mx_fo (h : mx_T lv kd mn T n cb S V O) (hcb : cb < 0) {x f t : Nat} (ht : t ≤ n) (h0 : 0 ≤ S f t) (hx : f ≤ x) (hy : x < t) (h1 : 10 ≤ T x) (h2 : T x < 18) (hs : mx_s lv kd T O x f t = none) :
    O f t = (x : Int) ∧ mx_F lv kd T S f x t := by
  obtain ⟨hij, c⟩ := mx_vw h ht h0
  rcases c with ⟨a1, a2, a3, a4⟩ | ⟨hB, a3, a4, a5⟩ | ⟨r, hF, a3, a4⟩
  · have e : x = f := by omega
    rw [e] at h1
    omega
  · by_cases e : x = f
    · have := hB.1
      rw [e] at h2
      omega
    · by_cases e2 : x = t - 1
      · have := hB.2.1
        rw [e2] at h2
        omega
      · rw [mx_sB (by omega) e (by omega)] at hs
        cases hs
  · by_cases e1 : x < r
    · rw [mx_sL a3 e1] at hs
      cases hs
    · by_cases e2 : x = r
      · rw [e2]
        exact ⟨a3, hF⟩
      · rw [mx_sR a3 (by omega)] at hs
        cases hs
/-- the walk to a pair's first bracket stops at the pair -/
theorem mx_fb (h : mx_T lv kd mn T n cb S V O) (hcb : cb < 0) {x f t : Nat} (ht : t ≤ n) (h0 : 0 ≤ S f t) (hx : f ≤ x) (hy : x < t) (h1 : T x = 18) (hs : mx_s lv kd T O x f t = none) :
    f = x ∧ mx_B T S x t ∧ x + 1 < t - 1 := by
  obtain ⟨hij, c⟩ := mx_vw h ht h0
  rcases c with ⟨a1, a2, a3, a4⟩ | ⟨hB, a3, a4, a5⟩ | ⟨r, hF, a3, a4⟩
  · have e : x = f := by omega
    rw [e] at h1
    omega
  · by_cases e : x = f
    · rw [e]
      exact ⟨rfl, hB, a5⟩
    · by_cases e2 : x = t - 1
      · have := hB.2.1
        rw [e2] at h1
        omega
      · rw [mx_sB (by omega) e (by omega)] at hs
        cases hs
  · by_cases e1 : x < r
    · rw [mx_sL a3 e1] at hs
      cases hs
    · by_cases e2 : x = r
      · have := hF.2.2.2.1
        rw [← e2] at this
        omega
      · rw [mx_sR a3 (by omega)] at hs
        cases hs
/-- the place that a walk's last step came from -/
theorem mx_bk (h : mx_T lv kd mn T n cb S V O) (hcb : cb < 0) {p g : Nat} {nd : Int} : ∀ d i j m, j ≤ n → 0 ≤ S i j → i ≤ p → p < j → mx_K lv kd T O p d i j m p g nd →
    (nd = m ∧ i = p ∧ j = g) ∨ nd = 0 ∨ ∃ r f t, i ≤ r ∧ r < j ∧ 10 ≤ T r ∧ T r < 18 ∧ mx_N lv kd T O r i j f t ∧
      ((f = p ∧ r = g ∧ nd = mx_n1 kd (lv (T r)) ∧ kd (lv (T r)) ≠ 3) ∨ (r + 1 = p ∧ t = g ∧ nd = mx_n2 kd (lv (T r)) ∧ kd (lv (T r)) ≠ 4)) := by
  intro d
  induction d with
  | zero =>
    intro i j m h1 h2 h3 h4 hK
    obtain ⟨k1, k2, k3, k4⟩ := hK
    exact Or.inl ⟨k4, k2.symm, k3.symm⟩
  | succ d ih =>
    intro i j m h1 h2 h3 h4 hK
    obtain ⟨i', j', m', e, hK⟩ := hK
    obtain ⟨b1, b2, b3, b4, b5, b6, b7⟩ := mx_pg h hcb h1 h2 h3 h4 e
    have IH := ih i' j' m' (by omega) (by omega) b3 b4 hK
    obtain ⟨hij, c⟩ := mx_vw h h1 h2
    rcases c with ⟨a1, a2, a3, a4⟩ | ⟨hB, a3, a4, a5⟩ | ⟨r, hF, a3, a4⟩
    · rw [mx_sN (by omega) (by omega)] at e
      cases e
    · by_cases z : p = i ∨ p + 1 = j
      · rw [mx_sN (by omega) z] at e
        cases e
      · rw [mx_sB (by omega) (by omega) (by omega)] at e
        obtain ⟨rfl, rfl, rfl⟩ := mx_s3 e
        rcases IH with ⟨c1, _, _⟩ | c1 | ⟨r, f, t, r1, r2, r3, r4, r5, r6⟩
        · exact Or.inr (Or.inl c1)
        · exact Or.inr (Or.inl c1)
        · exact Or.inr (Or.inr ⟨r, f, t, by omega, by omega, r3, r4, mx_N1 (mx_sB (by omega) (by omega) (by omega)) r5, r6⟩)
    · obtain ⟨p1, p2, p3, p4, hl, hr⟩ := hF
      by_cases e1 : p < r
      · rw [mx_sL a3 e1] at e
        obtain ⟨rfl, rfl, rfl⟩ := mx_s3 e
        rcases IH with ⟨c1, c2, c3⟩ | c1 | ⟨r', f, t, r1, r2, r3, r4, r5, r6⟩
        · refine Or.inr (Or.inr ⟨r, i, j, p1, p2, p3, p4, mx_N0 (mx_sE a3), Or.inl ⟨c2, c3, c1, ?_⟩⟩)
          omega
        · exact Or.inr (Or.inl c1)
        · exact Or.inr (Or.inr ⟨r', f, t, by omega, by omega, r3, r4, mx_N1 (mx_sL a3 (by omega)) r5, r6⟩)
      · by_cases e2 : p = r
        · rw [e2, mx_sE a3] at e
          cases e
        · rw [mx_sR a3 (by omega)] at e
          obtain ⟨rfl, rfl, rfl⟩ := mx_s3 e
          rcases IH with ⟨c1, c2, c3⟩ | c1 | ⟨r', f, t, r1, r2, r3, r4, r5, r6⟩
          · refine Or.inr (Or.inr ⟨r, i, j, p1, p2, p3, p4, mx_N0 (mx_sE a3), Or.inr ⟨c2, c3, c1, ?_⟩⟩)
            omega
          · exact Or.inr (Or.inl c1)
          · exact Or.inr (Or.inr ⟨r', f, t, by omega, by omega, r3, r4, mx_N1 (mx_sR a3 (by omega)) r5, r6⟩)
end
section
variable {lv kd : Nat → Nat} {mn : Nat → Int32} {T T' : Nat → Nat} {n n' : Nat} {cb cb' : Int} {S S' : Nat → Nat → Int} {V V' : Nat → Nat → Int32} {O O' : Nat → Nat → Int}
/-- the walk in the same text at another place -/
theorem mx_tK (hk : ∀ k, kd k < 5) (h : mx_T lv kd mn T n cb S V O) (h' : mx_T lv kd mn T' n' cb' S' V' O') (hcb : cb < 0) (hcb' : cb' < 0) {a b c x : Nat} (hb : b ≤ n') (hc : b + c ≤ n)
    (hT : ∀ x, a ≤ x → x < b → T' x = T (x + c)) : ∀ d i j m f t q, a ≤ i → j ≤ b → 0 ≤ S' i j → i ≤ x → x < j → mx_K lv kd T O (x + c) d (i + c) (j + c) m f t q →
      ∃ f' t', f = f' + c ∧ t = t' + c ∧ mx_K lv kd T' O' x d i j m f' t' q := by
  have tr := mx_tr hk h h' hb hc hT
  have st : ∀ i j, a ≤ i → j ≤ b → 0 ≤ S' i j → i ≤ x → x < j →
      (mx_s lv kd T O (x + c) (i + c) (j + c) = none → mx_s lv kd T' O' x i j = none) ∧
      (∀ i2 j2 m2, mx_s lv kd T O (x + c) (i + c) (j + c) = some (i2, j2, m2) → ∃ i' j', i2 = i' + c ∧ j2 = j' + c ∧ mx_s lv kd T' O' x i j = some (i', j', m2)) := by
    intro i j h1 h2 h3 h4 h5
    have oc := ((tr j i j (by omega) h1 h2).2 h3).2
    obtain ⟨hij, cs⟩ := mx_vw h' (by omega) h3
    rcases cs with ⟨a1, a2, a3, a4⟩ | ⟨hB, a3, a4, a5⟩ | ⟨r, hF, a3, a4⟩
    · have o : O (i + c) (j + c) < 0 := by
        rcases oc with ⟨c1, c2⟩ | ⟨c1, c2⟩ | ⟨c1, c2⟩ <;> omega
      refine ⟨fun _ => mx_sN (by omega) (by omega), fun i2 j2 m2 e => ?_⟩
      rw [mx_sN o (by omega)] at e
      cases e
    · have o : O (i + c) (j + c) < 0 := by
        rcases oc with ⟨c1, c2⟩ | ⟨c1, c2⟩ | ⟨c1, c2⟩ <;> omega
      by_cases z : x = i ∨ x + 1 = j
      · refine ⟨fun _ => mx_sN (by omega) z, fun i2 j2 m2 e => ?_⟩
        rw [mx_sN o (by omega)] at e
        cases e
      · have e0 : mx_s lv kd T O (x + c) (i + c) (j + c) = some (i + c + 1, j + c - 1, 0) := mx_sB o (by omega) (by omega)
        refine ⟨fun e => ?_, fun i2 j2 m2 e => ?_⟩
        · rw [e0] at e
          cases e
        · rw [e0] at e
          cases e
          exact ⟨i + 1, j - 1, by omega, by omega, mx_sB (by omega) (by omega) (by omega)⟩
    · have p1 := hF.1
      have p2 := hF.2.1
      have o : O (i + c) (j + c) = ((r + c : Nat) : Int) := by
        rcases oc with ⟨c1, c2⟩ | ⟨c1, c2⟩ | ⟨c1, c2⟩ <;> omega
      have t := hT r (by omega) (by omega)
      by_cases e1 : x < r
      · have e0 := mx_sL (lv := lv) (kd := kd) (T := T) (x := x + c) o (by omega)
        refine ⟨fun e => ?_, fun i2 j2 m2 e => ?_⟩
        · rw [e0] at e
          cases e
        · rw [e0] at e
          cases e
          refine ⟨i, r, rfl, rfl, ?_⟩
          rw [← t]
          exact mx_sL a3 e1
      · by_cases e2 : x = r
        · subst e2
          refine ⟨fun _ => mx_sE a3, fun i2 j2 m2 e => ?_⟩
          rw [mx_sE o] at e
          cases e
        · have e0 := mx_sR (lv := lv) (kd := kd) (T := T) (x := x + c) o (by omega)
          refine ⟨fun e => ?_, fun i2 j2 m2 e => ?_⟩
          · rw [e0] at e
            cases e
          · rw [e0] at e
            cases e
            refine ⟨r + 1, j, by omega, rfl, ?_⟩
            rw [← t]
            exact mx_sR a3 (by omega)
  intro d
  induction d with
  | zero =>
    intro i j m f t q h1 h2 h3 h4 h5 hK
    obtain ⟨k1, k2, k3, k4⟩ := hK
    exact ⟨i, j, k2, k3, (st i j h1 h2 h3 h4 h5).1 k1, rfl, rfl, k4⟩
  | succ d ih =>
    intro i j m f t q h1 h2 h3 h4 h5 hK
    obtain ⟨i2, j2, m2, e, hK⟩ := hK
    obtain ⟨i', j', e1, e2, e3⟩ := (st i j h1 h2 h3 h4 h5).2 i2 j2 m2 e
    subst e1 e2
    obtain ⟨b1, b2, b3, b4, b5, b6, b7⟩ := mx_pg h' hcb' (by omega) h3 h4 h5 e3
    obtain ⟨f', t', c1, c2, c3⟩ := ih i' j' m2 f t q (by omega) (by omega) (by omega) b3 b4 hK
    exact ⟨f', t', c1, c2, i', j', m2, e3, c3⟩
theorem mx_tN (hk : ∀ k, kd k < 5) (h : mx_T lv kd mn T n cb S V O) (h' : mx_T lv kd mn T' n' cb' S' V' O') (hcb : cb < 0) (hcb' : cb' < 0) {a b c : Nat} (hb : b ≤ n') (hc : b + c ≤ n)
    (hT : ∀ x, a ≤ x → x < b → T' x = T (x + c)) {x i j f t : Nat} (h1 : a ≤ i) (h2 : j ≤ b) (h3 : 0 ≤ S' i j) (h4 : i ≤ x) (h5 : x < j) (hN : mx_N lv kd T O (x + c) (i + c) (j + c) f t) :
    ∃ f' t', f = f' + c ∧ t = t' + c ∧ mx_N lv kd T' O' x i j f' t' := by
  obtain ⟨d, m, q, hK⟩ := hN
  obtain ⟨f', t', c1, c2, c3⟩ := mx_tK hk h h' hcb hcb' hb hc hT d i j m f t q h1 h2 h3 h4 h5 hK
  exact ⟨f', t', c1, c2, d, m, q, c3⟩
end
