/-! a span's cell is the text's alone: the same text at another place has the same cell -/
section
variable {lv kd : Nat → Nat} {mn : Nat → Int32} {T T' : Nat → Nat} {n n' : Nat} {cb cb' : Int} {S S' : Nat → Nat → Int} {V V' : Nat → Nat → Int32} {O O' : Nat → Nat → Int}
theorem mx_Ft {i r j i2 r2 j2 : Nat} (hF : mx_F lv kd T S i r j) (a : i2 ≤ r2) (b : r2 < j2) (hT : T' r2 = T r) (hi : r = i → r2 = i2) (hj : r + 1 = j → r2 + 1 = j2)
    (e1 : kd (lv (T r)) ≠ 3 → mx_n1 kd (lv (T r)) ≤ S i r → mx_n1 kd (lv (T r)) ≤ S' i2 r2)
    (e2 : kd (lv (T r)) ≠ 4 → mx_n2 kd (lv (T r)) ≤ S (r + 1) j → mx_n2 kd (lv (T r)) ≤ S' (r2 + 1) j2) : mx_F lv kd T' S' i2 r2 j2 := by
  obtain ⟨_, _, h3, h4, hl, hr⟩ := hF
  unfold mx_F
  rw [hT]
  refine ⟨a, b, h3, h4, ?_, ?_⟩
  · rcases hl with ⟨p, q⟩ | ⟨p, q⟩
    · exact Or.inl ⟨p, hi q⟩
    · exact Or.inr ⟨p, e1 p q⟩
  · rcases hr with ⟨p, q⟩ | ⟨p, q⟩
    · exact Or.inl ⟨p, hj q⟩
    · exact Or.inr ⟨p, e2 p q⟩
theorem mx_jvt {i r j i2 r2 j2 : Nat} (t : T' r2 = T r) (v1 : kd (lv (T r)) ≠ 3 → V' i2 r2 = V i r) (v2 : kd (lv (T r)) ≠ 4 → V' (r2 + 1) j2 = V (r + 1) j) :
    mx_jv lv kd mn T' V' i2 r2 j2 = mx_jv lv kd mn T V i r j := by
  unfold mx_jv
  rw [t]
  by_cases k3 : kd (lv (T r)) = 3
  · rw [if_pos k3, if_pos k3, v2 (by omega)]
  · rw [if_neg k3, if_neg k3, v1 k3]
    by_cases k4 : kd (lv (T r)) = 4
    · rw [if_pos k4, if_pos k4]
    · rw [if_neg k4, if_neg k4, v2 k4]
/-- the same cells within: the same cell -/
theorem mx_Cc {a b : Nat} (hS : ∀ c d, a ≤ c → d ≤ b → S' c d = S c d) (hV : ∀ c d, a ≤ c → d ≤ b → c < d → V' c d = V c d) (hO : O' a b = O a b) (hab : a < b)
    (hpos : ∀ c d, d ≤ c → S c d = -1) (h : mx_C lv kd mn T cb S V O a b) : mx_C lv kd mn T cb S' V' O' a b := by
  have eS := hS a b (Nat.le_refl _) (Nat.le_refl _)
  have eV := hV a b (Nat.le_refl _) (Nat.le_refl _) hab
  have bu : mx_B T S' a b → mx_B T S a b := fun ⟨x1, x2, x3⟩ => ⟨x1, x2, by rw [← hS (a + 1) (b - 1) (by omega) (by omega)]; exact x3⟩
  have fu : ∀ r, mx_F lv kd T S' a r b → mx_F lv kd T S a r b := by
    intro r hF
    have p1 := hF.1
    have p2 := hF.2.1
    exact mx_Ft hF p1 p2 rfl (fun z => z) (fun z => z) (fun _ z => by rw [← hS a r (by omega) (by omega)]; exact z) (fun _ z => by rw [← hS (r + 1) b (by omega) (by omega)]; exact z)
  rcases h with ⟨a1, a2, a3, a4, a5⟩ | ⟨⟨b1, b2, b3⟩, a3, a4, a5⟩ | ⟨r, hF, a3, a4, a5⟩ | ⟨a3, a4, a5, a6⟩
  · exact Or.inl ⟨a1, a2, eS.trans a3, hO.trans a4, eV.trans a5⟩
  · have z : a + 1 < b - 1 := by
      by_cases c : a + 1 < b - 1
      · exact c
      · have := hpos (a + 1) (b - 1) (by omega)
        omega
    refine Or.inr (Or.inl ⟨⟨b1, b2, ?_⟩, eS.trans a3, hO.trans a4, ?_⟩)
    · rw [hS (a + 1) (b - 1) (by omega) (by omega)]
      exact b3
    · rw [hV (a + 1) (b - 1) (by omega) (by omega) z]
      exact eV.trans a5
  · have p1 := hF.1
    have p2 := hF.2.1
    have g1 := mx_n1g kd (lv (T r))
    have g2 := mx_n2g kd (lv (T r))
    refine Or.inr (Or.inr (Or.inl ⟨r, ?_, eS.trans a3, hO.trans a4, ?_⟩))
    · exact mx_Ft hF p1 p2 rfl (fun z => z) (fun z => z) (fun _ z => by rw [hS a r (by omega) (by omega)]; exact z) (fun _ z => by rw [hS (r + 1) b (by omega) (by omega)]; exact z)
    · refine (eV.trans a5).trans (mx_jvt rfl ?_ ?_).symm
      · intro k3
        have hl := hF.2.2.2.2.1
        refine hV a r (by omega) (by omega) ?_
        by_cases c : a < r
        · exact c
        · have := hpos a r (by omega)
          omega
      · intro k4
        have hr := hF.2.2.2.2.2
        refine hV (r + 1) b (by omega) (by omega) ?_
        by_cases c : r + 1 < b
        · exact c
        · have := hpos (r + 1) b (by omega)
          omega
  · exact Or.inr (Or.inr (Or.inr ⟨eS.trans a3, a4, fun z => a5 (bu z), fun r z => a6 r (fu r z)⟩))
def mx_OC (cb cb' : Int) (c : Nat) (o' o : Int) : Prop := (0 ≤ o' ∧ o = o' + c) ∨ (o' = -1 ∧ o = -1) ∨ (o' = cb' ∧ o = cb)
theorem mx_tr (hk : ∀ k, kd k < 5) (h : mx_T lv kd mn T n cb S V O) (h' : mx_T lv kd mn T' n' cb' S' V' O') {a b c : Nat} (hb : b ≤ n') (hc : b + c ≤ n)
    (hT : ∀ x, a ≤ x → x < b → T' x = T (x + c)) :
    ∀ w i j, j ≤ i + w → a ≤ i → j ≤ b → S' i j = S (i + c) (j + c) ∧ (0 ≤ S' i j → V' i j = V (i + c) (j + c) ∧ mx_OC cb cb' c (O' i j) (O (i + c) (j + c))) := by
  intro w
  induction w with
  | zero =>
    intro i j h1 h2 h3
    rw [h.1 (i + c) (j + c) (by omega), h'.1 i j (by omega)]
    exact ⟨rfl, fun z => absurd z (by decide)⟩
  | succ w ih =>
    intro i j h1 h2 h3
    by_cases hij : i < j
    · have up : ∀ r, mx_F lv kd T' S' i r j → mx_F lv kd T S (i + c) (r + c) (j + c) := by
        intro r hF
        have p1 := hF.1
        have p2 := hF.2.1
        refine mx_Ft hF (by omega) (by omega) (hT r (by omega) (by omega)).symm (by omega) (by omega) (fun _ z => ?_) (fun _ z => ?_)
        · rw [← (ih i r (by omega) (by omega) (by omega)).1]
          exact z
        · have e : r + c + 1 = r + 1 + c := by omega
          rw [e, ← (ih (r + 1) j (by omega) (by omega) (by omega)).1]
          exact z
      have dn : ∀ r, ¬ mx_F lv kd T' S' i r j → ¬ mx_F lv kd T S (i + c) (r + c) (j + c) := by
        intro r hn hF
        have p1 := hF.1
        have p2 := hF.2.1
        refine hn (mx_Ft hF (by omega) (by omega) (hT r (by omega) (by omega)) (by omega) (by omega) (fun _ z => ?_) (fun _ z => ?_))
        · rw [(ih i r (by omega) (by omega) (by omega)).1]
          exact z
        · have e : r + c + 1 = r + 1 + c := by omega
          rw [e] at z
          rw [(ih (r + 1) j (by omega) (by omega) (by omega)).1]
          exact z
      have e1 : i + 1 + c = i + c + 1 := by omega
      rcases h'.2 i j hij (by omega) with ⟨x1, x2, x3, x4, x5⟩ | ⟨hB, x3, x4, x5⟩ | ⟨r, hF, x3, x4, x5⟩ | ⟨x3, x4, x5, x6⟩
      · have t := hT i (by omega) (by omega)
        obtain ⟨y3, y4, y5⟩ := mx_rdN h (i := i + c) (j := j + c) (by omega) (by omega) (by rw [← t]; exact x2)
        exact ⟨x3.trans y3.symm, fun _ => ⟨by rw [x5, y5, t], Or.inr (Or.inl ⟨x4, y4⟩)⟩⟩
      · obtain ⟨b1, b2, b3⟩ := hB
        have z := mx_ps h' b3
        have e := ih (i + 1) (j - 1) (by omega) (by omega) (by omega)
        have e2 : j - 1 + c = j + c - 1 := by omega
        have t1 := hT i (by omega) (by omega)
        have t2 := hT (j - 1) (by omega) (by omega)
        rw [e1, e2] at e
        rw [e2] at t2
        have hB2 : mx_B T S (i + c) (j + c) := ⟨t1.symm.trans b1, t2.symm.trans b2, by rw [← e.1]; exact b3⟩
        obtain ⟨y3, y4, y5⟩ := mx_rdB h (by omega) hB2
        exact ⟨x3.trans y3.symm, fun _ => ⟨by rw [x5, y5]; exact (e.2 b3).1, Or.inr (Or.inr ⟨x4, y4⟩)⟩⟩
      · obtain ⟨y3, y4, y5⟩ := mx_rdF hk h (by omega) (up r hF)
        obtain ⟨p1, p2, _, _, hl, hr⟩ := hF
        have t := hT r (by omega) (by omega)
        have g1 := mx_n1g kd (lv (T' r))
        have g2 := mx_n2g kd (lv (T' r))
        refine ⟨by rw [x3, y3, t], fun _ => ⟨?_, Or.inl ⟨by omega, by omega⟩⟩⟩
        rw [x5, y5]
        refine (mx_jvt t.symm ?_ ?_).symm
        · intro k3
          exact ((ih i r (by omega) (by omega) (by omega)).2 (by omega)).1.symm
        · intro k4
          have e : r + c + 1 = r + 1 + c := by omega
          rw [e]
          exact ((ih (r + 1) j (by omega) (by omega) (by omega)).2 (by omega)).1.symm
      · refine ⟨?_, fun z => by omega⟩
        rcases h.2 (i + c) (j + c) (by omega) (by omega) with ⟨a1, a2, _⟩ | ⟨⟨b1, b2, b3⟩, _⟩ | ⟨r, hF, _⟩ | ⟨a1, _⟩
        · exact (x4 ⟨by omega, by rw [hT i (by omega) (by omega)]; exact a2⟩).elim
        · have z := mx_ps h b3
          have e := ih (i + 1) (j - 1) (by omega) (by omega) (by omega)
          have e2 : j - 1 + c = j + c - 1 := by omega
          have t1 := hT i (by omega) (by omega)
          have t2 := hT (j - 1) (by omega) (by omega)
          rw [e1, e2] at e
          rw [e2] at t2
          exact (x5 ⟨t1.trans b1, t2.trans b2, by rw [e.1]; exact b3⟩).elim
        · have p1 := hF.1
          obtain ⟨y, rfl⟩ : ∃ y, r = y + c := ⟨r - c, by omega⟩
          exact (dn y (x6 y) hF).elim
        · exact x3.trans a1.symm
    · rw [h.1 (i + c) (j + c) (by omega), h'.1 i j (by omega)]
      exact ⟨rfl, fun z => absurd z (by decide)⟩
end
theorem mx_s3 {a b a' b' : Nat} {c c' : Int} (h : some (a, b, c) = some (a', b', c')) : a = a' ∧ b = b' ∧ c = c' := by
  injection h with h
  injection h with h1 h
  injection h with h2 h3
  exact ⟨h1, h2, h3⟩
/-! the walk from a span down to the part that a token is the number, bracket or last operator of -/
def mx_s (lv kd T : Nat → Nat) (O : Nat → Nat → Int) (x i j : Nat) : Option (Nat × Nat × Int) :=
  if 0 ≤ O i j then
    if (x : Int) = O i j then none
    else if (x : Int) < O i j then some (i, (O i j).toNat, mx_n1 kd (lv (T (O i j).toNat)))
    else some ((O i j).toNat + 1, j, mx_n2 kd (lv (T (O i j).toNat)))
  else if x = i ∨ x + 1 = j then none else some (i + 1, j - 1, 0)
/-- d steps lead from the span i, j with the need m to the span f, t with the need q, where the walk stops -/
def mx_K (lv kd T : Nat → Nat) (O : Nat → Nat → Int) (x : Nat) : Nat → Nat → Nat → Int → Nat → Nat → Int → Prop
  | 0, i, j, m, f, t, q => mx_s lv kd T O x i j = none ∧ f = i ∧ t = j ∧ q = m
  | d + 1, i, j, _, f, t, q => ∃ i' j' m', mx_s lv kd T O x i j = some (i', j', m') ∧ mx_K lv kd T O x d i' j' m' f t q
def mx_N (lv kd T : Nat → Nat) (O : Nat → Nat → Int) (x i j f t : Nat) : Prop := ∃ d m q, mx_K lv kd T O x d i j m f t q
section
variable {lv kd T : Nat → Nat} {O : Nat → Nat → Int} {i j x r : Nat}
theorem mx_sE (h : O i j = (r : Int)) : mx_s lv kd T O r i j = none := by
  unfold mx_s
  rw [h, if_pos (by omega), if_pos rfl]
theorem mx_sL (h : O i j = (r : Int)) (hx : x < r) : mx_s lv kd T O x i j = some (i, r, mx_n1 kd (lv (T r))) := by
  have e : ((r : Int)).toNat = r := rfl
  unfold mx_s
  rw [h, if_pos (by omega), if_neg (by omega), if_pos (by omega), e]
theorem mx_sR (h : O i j = (r : Int)) (hx : r < x) : mx_s lv kd T O x i j = some (r + 1, j, mx_n2 kd (lv (T r))) := by
  have e : ((r : Int)).toNat = r := rfl
  unfold mx_s
  rw [h, if_pos (by omega), if_neg (by omega), if_neg (by omega), e]
theorem mx_sB (h : O i j < 0) (h1 : x ≠ i) (h2 : x + 1 ≠ j) : mx_s lv kd T O x i j = some (i + 1, j - 1, 0) := by
  unfold mx_s
  rw [if_neg (by omega), if_neg (by omega)]
theorem mx_sN (h : O i j < 0) (h1 : x = i ∨ x + 1 = j) : mx_s lv kd T O x i j = none := by
  unfold mx_s
  rw [if_neg (by omega), if_pos h1]
theorem mx_Km {d : Nat} {m q : Int} {f t : Nat} (m' : Int) (h : mx_K lv kd T O x d i j m f t q) : ∃ q', mx_K lv kd T O x d i j m' f t q' := by
  cases d with
  | zero =>
    obtain ⟨h1, h2, h3, _⟩ := h
    exact ⟨m', h1, h2, h3, rfl⟩
  | succ d => exact ⟨q, h⟩
theorem mx_N0 (hs : mx_s lv kd T O x i j = none) : mx_N lv kd T O x i j i j := ⟨0, 0, 0, hs, rfl, rfl, rfl⟩
theorem mx_N1 {i' j' f t : Nat} {m' : Int} (hs : mx_s lv kd T O x i j = some (i', j', m')) (h : mx_N lv kd T O x i' j' f t) : mx_N lv kd T O x i j f t := by
  obtain ⟨d, m, q, hK⟩ := h
  obtain ⟨q', hK'⟩ := mx_Km m' hK
  exact ⟨d + 1, 0, q', i', j', m', hs, hK'⟩
theorem mx_N2 {i' j' f t : Nat} {m' : Int} (hs : mx_s lv kd T O x i j = some (i', j', m')) (h : mx_N lv kd T O x i j f t) : mx_N lv kd T O x i' j' f t := by
  obtain ⟨d, m, q, hK⟩ := h
  cases d with
  | zero =>
    obtain ⟨e, _⟩ := hK
    rw [hs] at e
    cases e
  | succ d =>
    obtain ⟨a, b, c, e, hK⟩ := hK
    rw [hs] at e
    cases e
    exact ⟨d, m', q, hK⟩
theorem mx_N3 {f t : Nat} (hs : mx_s lv kd T O x i j = none) (h : mx_N lv kd T O x i j f t) : f = i ∧ t = j := by
  obtain ⟨d, m, q, hK⟩ := h
  cases d with
  | zero =>
    obtain ⟨_, h2, h3, _⟩ := hK
    exact ⟨h2, h3⟩
  | succ d =>
    obtain ⟨a, b, c, e, _⟩ := hK
    rw [hs] at e
    cases e
end
theorem mx_Nu {lv kd T : Nat → Nat} {O : Nat → Nat → Int} {x : Nat} : ∀ d i j m f t q f' t', mx_K lv kd T O x d i j m f t q → mx_N lv kd T O x i j f' t' → f' = f ∧ t' = t := by
  intro d
  induction d with
  | zero =>
    intro i j m f t q f' t' h h'
    obtain ⟨h1, h2, h3, _⟩ := h
    rw [h2, h3]
    exact mx_N3 h1 h'
  | succ d ih =>
    intro i j m f t q f' t' h h'
    obtain ⟨a, b, c, e, hK⟩ := h
    exact ih a b c f t q f' t' hK (mx_N2 e h')
