/-! the pure picture: which spans of a text are expressions, how strong, with which last operator -/
def mx_w (t : Nat) : Int := if t = 18 then 1 else if t = 19 then -1 else 0
def mx_b (T : Nat → Nat) : Nat → Int
  | 0 => 0
  | n + 1 => mx_b T n + mx_w (T n)
theorem mx_b1 (T : Nat → Nat) (n : Nat) : mx_b T (n + 1) = mx_b T n + mx_w (T n) := rfl
theorem mx_w18 : mx_w 18 = 1 := if_pos rfl
theorem mx_w19 : mx_w 19 = -1 := by
  unfold mx_w
  rw [if_neg (by decide), if_pos rfl]
theorem mx_w0 {t : Nat} (h : t < 18) : mx_w t = 0 := by
  unfold mx_w
  rw [if_neg (by omega), if_neg (by omega)]
/-- the strength that a first, a second operand of an operator of level k must have -/
def mx_n1 (kd : Nat → Nat) (k : Nat) : Int := if kd k = 1 ∨ kd k = 2 then (k : Int) + 1 else (k : Int)
def mx_n2 (kd : Nat → Nat) (k : Nat) : Int := if kd k = 0 ∨ kd k = 2 then (k : Int) + 1 else (k : Int)
theorem mx_n1g (kd : Nat → Nat) (k : Nat) : (k : Int) ≤ mx_n1 kd k := by
  unfold mx_n1
  split <;> omega
theorem mx_n2g (kd : Nat → Nat) (k : Nat) : (k : Int) ≤ mx_n2 kd k := by
  unfold mx_n2
  split <;> omega
theorem mx_nn {kd : Nat → Nat} {k : Nat} (h : kd k < 5) (h3 : kd k ≠ 3) (h4 : kd k ≠ 4) (h1 : mx_n1 kd k ≤ (k : Int)) (h2 : mx_n2 kd k ≤ (k : Int)) : False := by
  unfold mx_n1 at h1
  unfold mx_n2 at h2
  split at h1
  · omega
  · split at h2
    · omega
    · omega
/-- the operator at r joins the span from i up to j -/
def mx_F (lv kd T : Nat → Nat) (S : Nat → Nat → Int) (i r j : Nat) : Prop :=
  i ≤ r ∧ r < j ∧ 10 ≤ T r ∧ T r < 18 ∧
  ((kd (lv (T r)) = 3 ∧ r = i) ∨ (kd (lv (T r)) ≠ 3 ∧ mx_n1 kd (lv (T r)) ≤ S i r)) ∧
  ((kd (lv (T r)) = 4 ∧ r + 1 = j) ∨ (kd (lv (T r)) ≠ 4 ∧ mx_n2 kd (lv (T r)) ≤ S (r + 1) j))
/-- the span is a pair of brackets around an expression -/
def mx_B (T : Nat → Nat) (S : Nat → Nat → Int) (i j : Nat) : Prop :=
  T i = 18 ∧ T (j - 1) = 19 ∧ 0 ≤ S (i + 1) (j - 1)
def mx_one (m a : Int32) : Int32 := if m = 0 then -a else if m = 1 then a + 1 else if m = 2 then 2 * a else 7 * a + 3
def mx_two (m a b : Int32) : Int32 := if m = 0 then a + b else if m = 1 then a - b else if m = 2 then a * b else 10 * a + b
def mx_jv (lv kd : Nat → Nat) (mn : Nat → Int32) (T : Nat → Nat) (V : Nat → Nat → Int32) (i r j : Nat) : Int32 :=
  if kd (lv (T r)) = 3 then mx_one (mn (T r)) (V (r + 1) j)
  else if kd (lv (T r)) = 4 then mx_one (mn (T r)) (V i r)
  else mx_two (mn (T r)) (V i r) (V (r + 1) j)
/-- what the three tables hold of the span from i up to j; cb: the mark of brackets -/
def mx_C (lv kd : Nat → Nat) (mn : Nat → Int32) (T : Nat → Nat) (cb : Int) (S : Nat → Nat → Int) (V : Nat → Nat → Int32) (O : Nat → Nat → Int) (i j : Nat) : Prop :=
  (j = i + 1 ∧ T i < 10 ∧ S i j = 5 ∧ O i j = -1 ∧ V i j = nI (T i)) ∨
  (mx_B T S i j ∧ S i j = 5 ∧ O i j = cb ∧ V i j = V (i + 1) (j - 1)) ∨
  (∃ r, mx_F lv kd T S i r j ∧ S i j = (lv (T r) : Int) ∧ O i j = (r : Int) ∧ V i j = mx_jv lv kd mn T V i r j) ∨
  (S i j = -1 ∧ ¬ (j = i + 1 ∧ T i < 10) ∧ ¬ mx_B T S i j ∧ ∀ r, ¬ mx_F lv kd T S i r j)
def mx_T (lv kd : Nat → Nat) (mn : Nat → Int32) (T : Nat → Nat) (n : Nat) (cb : Int) (S : Nat → Nat → Int) (V : Nat → Nat → Int32) (O : Nat → Nat → Int) : Prop :=
  (∀ i j, j ≤ i → S i j = -1) ∧ ∀ i j, i < j → j ≤ n → mx_C lv kd mn T cb S V O i j
/-- balanced, and no operator outside brackets is weaker than the span -/
def mx_D (lv T : Nat → Nat) (S : Nat → Nat → Int) (i j : Nat) : Prop :=
  mx_b T j = mx_b T i ∧ (∀ x, i ≤ x → x ≤ j → mx_b T i ≤ mx_b T x) ∧
  (∀ x, i ≤ x → x < j → 10 ≤ T x → T x < 18 → mx_b T x = mx_b T i → S i j ≤ (lv (T x) : Int))
theorem mx_D1 {lv kd T : Nat → Nat} {S : Nat → Nat → Int} {i r j : Nat} (hF : mx_F lv kd T S i r j)
    (ih : ∀ a b, i ≤ a → b ≤ j → b - a < j - i → 0 ≤ S a b → mx_D lv T S a b) :
    mx_b T r = mx_b T i ∧ mx_b T j = mx_b T i ∧ (∀ x, i ≤ x → x ≤ j → mx_b T i ≤ mx_b T x) ∧
    (∀ x, i ≤ x → x < r → 10 ≤ T x → T x < 18 → mx_b T x = mx_b T i → kd (lv (T r)) ≠ 3 ∧ mx_n1 kd (lv (T r)) ≤ (lv (T x) : Int)) ∧
    (∀ x, r < x → x < j → 10 ≤ T x → T x < 18 → mx_b T x = mx_b T i → kd (lv (T r)) ≠ 4 ∧ mx_n2 kd (lv (T r)) ≤ (lv (T x) : Int)) := by
  obtain ⟨h1, h2, h3, h4, hl, hr⟩ := hF
  have e1 : mx_b T (r + 1) = mx_b T r := by rw [mx_b1, mx_w0 h4, Int.add_zero]
  have g1 := mx_n1g kd (lv (T r))
  have g2 := mx_n2g kd (lv (T r))
  have L : mx_b T r = mx_b T i ∧ (∀ x, i ≤ x → x ≤ r → mx_b T i ≤ mx_b T x) ∧
      (∀ x, i ≤ x → x < r → 10 ≤ T x → T x < 18 → mx_b T x = mx_b T i → kd (lv (T r)) ≠ 3 ∧ mx_n1 kd (lv (T r)) ≤ (lv (T x) : Int)) := by
    rcases hl with ⟨_, e⟩ | ⟨k3, e⟩
    · refine ⟨by rw [e], fun x a b => ?_, fun x a b => ?_⟩
      · have hx : x = i := by omega
        rw [hx]
        exact Int.le_refl _
      · exfalso
        omega
    · obtain ⟨d2, d3, d4⟩ := ih i r (Nat.le_refl _) (by omega) (by omega) (by omega)
      exact ⟨d2, d3, fun x a b c d f => ⟨k3, Int.le_trans e (d4 x a b c d f)⟩⟩
  have R : mx_b T j = mx_b T (r + 1) ∧ (∀ x, r + 1 ≤ x → x ≤ j → mx_b T (r + 1) ≤ mx_b T x) ∧
      (∀ x, r + 1 ≤ x → x < j → 10 ≤ T x → T x < 18 → mx_b T x = mx_b T (r + 1) → kd (lv (T r)) ≠ 4 ∧ mx_n2 kd (lv (T r)) ≤ (lv (T x) : Int)) := by
    rcases hr with ⟨_, e⟩ | ⟨k4, e⟩
    · refine ⟨by rw [e], fun x a b => ?_, fun x a b => ?_⟩
      · have hx : x = r + 1 := by omega
        rw [hx]
        exact Int.le_refl _
      · exfalso
        omega
    · obtain ⟨d2, d3, d4⟩ := ih (r + 1) j (by omega) (Nat.le_refl _) (by omega) (by omega)
      exact ⟨d2, d3, fun x a b c d f => ⟨k4, Int.le_trans e (d4 x a b c d f)⟩⟩
  obtain ⟨l1, l2, l3⟩ := L
  obtain ⟨r1, r2, r3⟩ := R
  refine ⟨l1, by omega, fun x a b => ?_, l3, fun x a b c d f => r3 x a b c d (by omega)⟩
  by_cases hx : x ≤ r
  · exact l2 x a hx
  · have z := r2 x (by omega) b
    omega
section
variable {lv kd : Nat → Nat} {mn : Nat → Int32} {T : Nat → Nat} {n : Nat} {cb : Int} {S : Nat → Nat → Int} {V : Nat → Nat → Int32} {O : Nat → Nat → Int}
theorem mx_ps (h : mx_T lv kd mn T n cb S V O) {a b : Nat} (z : 0 ≤ S a b) : a < b := by
  by_cases c : a < b
  · exact c
  · have e := h.1 a b (by omega)
    omega
theorem mx_dk (h : mx_T lv kd mn T n cb S V O) : ∀ w i j, j ≤ i + w → j ≤ n → 0 ≤ S i j → mx_D lv T S i j := by
  intro w
  induction w with
  | zero =>
    intro i j h1 _ h3
    have hij := mx_ps h h3
    omega
  | succ w ih =>
    intro i j h1 h2 h3
    have hij := mx_ps h h3
    rcases h.2 i j hij h2 with ⟨a, b, c, _⟩ | ⟨⟨a, b, c⟩, d, _⟩ | ⟨r, hF, c, _⟩ | ⟨c, _⟩
    · have e : mx_b T j = mx_b T i := by rw [a, mx_b1, mx_w0 (by omega), Int.add_zero]
      refine ⟨e, fun x p q => ?_, fun x p q z => ?_⟩
      · have hx : x = i ∨ x = j := by omega
        rcases hx with hx | hx
        · rw [hx]
          exact Int.le_refl _
        · rw [hx]
          omega
      · have hx : x = i := by omega
        rw [hx] at z
        omega
    · have z := mx_ps h c
      obtain ⟨d1, d2, _⟩ := ih (i + 1) (j - 1) (by omega) (by omega) c
      have e1 : mx_b T (i + 1) = mx_b T i + 1 := by rw [mx_b1, a, mx_w18]
      have e2 : mx_b T (j - 1 + 1) = mx_b T (j - 1) + -1 := by rw [mx_b1, b, mx_w19]
      have e3 : j - 1 + 1 = j := by omega
      rw [e3] at e2
      refine ⟨by omega, fun x p q => ?_, fun x p q u v y => ?_⟩
      · by_cases hx : x = i
        · rw [hx]
          exact Int.le_refl _
        · by_cases hy : x = j
          · rw [hy]
            omega
          · have := d2 x (by omega) (by omega)
            omega
      · exfalso
        by_cases hx : x = i
        · rw [hx] at v
          omega
        · by_cases hy : x = j - 1
          · rw [hy] at v
            omega
          · have := d2 x (by omega) (by omega)
            omega
    · have g1 := mx_n1g kd (lv (T r))
      have g2 := mx_n2g kd (lv (T r))
      obtain ⟨a1, a2, a3, a4, a5⟩ := mx_D1 hF (fun a b p q s z => ih a b (by omega) (by omega) z)
      refine ⟨a2, a3, fun x p q u v y => ?_⟩
      by_cases hx : x < r
      · have := (a4 x p hx u v y).2
        omega
      · by_cases hy : x = r
        · rw [hy]
          omega
        · have := (a5 x (by omega) q u v y).2
          omega
    · omega
theorem mx_un1 (hk : ∀ k, kd k < 5) (h : mx_T lv kd mn T n cb S V O) {i j r1 r2 : Nat} (hj : j ≤ n) (h1 : mx_F lv kd T S i r1 j) (h2 : mx_F lv kd T S i r2 j) (hlt : r1 < r2) : False := by
  have ih : ∀ a b, i ≤ a → b ≤ j → b - a < j - i → 0 ≤ S a b → mx_D lv T S a b := fun a b _ q _ z => mx_dk h b a b (by omega) (by omega) z
  obtain ⟨a1, _, _, _, a5⟩ := mx_D1 h1 ih
  obtain ⟨b1, _, _, b4, _⟩ := mx_D1 h2 ih
  obtain ⟨p1, p2, p3, p4, _, _⟩ := h1
  obtain ⟨q1, q2, q3, q4, _, _⟩ := h2
  obtain ⟨c1, c2⟩ := a5 r2 hlt q2 q3 q4 b1
  obtain ⟨d1, d2⟩ := b4 r1 p1 hlt p3 p4 a1
  have g1 := mx_n1g kd (lv (T r2))
  have g2 := mx_n2g kd (lv (T r1))
  have e : lv (T r1) = lv (T r2) := by omega
  rw [e] at c1 c2 d2
  exact mx_nn (hk _) d1 c1 d2 c2
theorem mx_un (hk : ∀ k, kd k < 5) (h : mx_T lv kd mn T n cb S V O) {i j r1 r2 : Nat} (hj : j ≤ n) (h1 : mx_F lv kd T S i r1 j) (h2 : mx_F lv kd T S i r2 j) : r1 = r2 := by
  rcases Nat.lt_trichotomy r1 r2 with c | c | c
  · exact (mx_un1 hk h hj h1 h2 c).elim
  · exact c
  · exact (mx_un1 hk h hj h2 h1 c).elim
theorem mx_ex (h : mx_T lv kd mn T n cb S V O) {i j r : Nat} (hj : j ≤ n) (hF : mx_F lv kd T S i r j) (hB : mx_B T S i j) : False := by
  have ih : ∀ a b, i ≤ a → b ≤ j → b - a < j - i → 0 ≤ S a b → mx_D lv T S a b := fun a b _ q _ z => mx_dk h b a b (by omega) (by omega) z
  obtain ⟨a1, _⟩ := mx_D1 hF ih
  obtain ⟨p1, p2, p3, p4, _⟩ := hF
  obtain ⟨b1, b2, b3⟩ := hB
  have z := mx_ps h b3
  obtain ⟨_, d2, _⟩ := mx_dk h j (i + 1) (j - 1) (by omega) (by omega) b3
  have e1 : mx_b T (i + 1) = mx_b T i + 1 := by rw [mx_b1, b1, mx_w18]
  by_cases c1 : r = i
  · rw [c1] at p4
    omega
  · by_cases c2 : r = j - 1
    · rw [c2] at p4
      omega
    · have := d2 r (by omega) (by omega)
      omega
theorem mx_rdF (hk : ∀ k, kd k < 5) (h : mx_T lv kd mn T n cb S V O) {i j r : Nat} (hj : j ≤ n) (hF : mx_F lv kd T S i r j) :
    S i j = (lv (T r) : Int) ∧ O i j = (r : Int) ∧ V i j = mx_jv lv kd mn T V i r j := by
  have p1 := hF.1
  have p2 := hF.2.1
  have p3 := hF.2.2.1
  rcases h.2 i j (by omega) hj with ⟨a, b, _⟩ | ⟨hB, _⟩ | ⟨r', hF', e⟩ | ⟨_, _, _, c⟩
  · have hr : r = i := by omega
    rw [hr] at p3
    omega
  · exact (mx_ex h hj hF hB).elim
  · have hr := mx_un hk h hj hF hF'
    subst hr
    exact e
  · exact (c r hF).elim
theorem mx_rdB (h : mx_T lv kd mn T n cb S V O) {i j : Nat} (hj : j ≤ n) (hB : mx_B T S i j) :
    S i j = 5 ∧ O i j = cb ∧ V i j = V (i + 1) (j - 1) := by
  have z := mx_ps h hB.2.2
  rcases h.2 i j (by omega) hj with ⟨a, b, _⟩ | ⟨_, e⟩ | ⟨r', hF', e⟩ | ⟨_, _, c, _⟩
  · have := hB.1
    omega
  · exact e
  · exact (mx_ex h hj hF' hB).elim
  · exact (c hB).elim
theorem mx_rdN (h : mx_T lv kd mn T n cb S V O) {i j : Nat} (hj : j ≤ n) (h1 : j = i + 1) (h2 : T i < 10) :
    S i j = 5 ∧ O i j = -1 ∧ V i j = nI (T i) := by
  rcases h.2 i j (by omega) hj with ⟨_, _, e⟩ | ⟨hB, e⟩ | ⟨r, hF, e⟩ | ⟨_, c, _, _⟩
  · exact e
  · have := hB.1
    omega
  · have p1 := hF.1
    have p2 := hF.2.1
    have p3 := hF.2.2.1
    have hr : r = i := by omega
    rw [hr] at p3
    omega
  · exact (c ⟨h1, h2⟩).elim
end
