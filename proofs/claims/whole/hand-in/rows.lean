section
/-! rows pasted from kit/rows -/
theorem pk_us {f : Nat → Int32} {k : Nat} {x : Int32} : upd f k x k = x := if_pos rfl
theorem pk_un {f : Nat → Int32} {k j : Nat} {x : Int32} (h : j ≠ k) : upd f k x j = f j := if_neg h
theorem pk_sub {a b : Nat} (h : b ≤ a) : nI a - nI b = nI (a - b) := by
  obtain ⟨c, rfl⟩ : ∃ c, a = c + b := ⟨a - b, by omega⟩
  rw [← nI_add, Int32.add_sub_cancel, Nat.add_sub_cancel]
theorem pk_m1 (n : Nat) : nI (n + 1) + (-1) = nI n := by
  rw [← nI_1, Int32.add_assoc, show (1 : Int32) + (-1) = 0 from rfl, Int32.add_zero]
theorem pk_mul (a b : Nat) : nI a * nI b = nI (a * b) := (Int32.ofNat_mul a b).symm
theorem pk_div {a d : Nat} (ha : a < 2 ^ 31) (h0 : 0 < d) (hd : d < 2 ^ 31) : nI a / nI d = nI (a / d) := by
  apply Int32.toInt_inj.mp
  rw [lg_idiv_nonneg (by rw [nI_toInt ha]; omega) (by rw [nI_toInt hd]; omega), nI_toInt ha, nI_toInt hd, nI_toInt (Nat.lt_of_le_of_lt (Nat.div_le_self a d) ha)]
  first | rfl | exact (Int.natCast_ediv _ _).symm
theorem pk_rem {a d : Nat} (ha : a < 2 ^ 31) (h0 : 0 < d) (hd : d < 2 ^ 31) : nI a - nI a / nI d * nI d = nI (a % d) := by
  rw [pk_div ha h0 hd, pk_mul, pk_sub (Nat.div_mul_le_self a d)]
  exact congrArg nI (by have := Nat.div_add_mod' a d; omega)
theorem pk_sub_toInt {a b : Nat} (ha : a < 2 ^ 30) (hb : b < 2 ^ 30) : (nI a - nI b).toInt = (a : Int) - b := by
  rw [Int32.toInt_sub, nI_toInt (by omega), nI_toInt (by omega)]
  exact Int.bmod_eq_of_le (by omega) (by omega)
theorem pk_le {x y : Int32} {A B : Prop} (a b : Nat) (f : a ≤ b → A) (g : b < a → B) (hx : x = nI a := by rfl) (hy : y = nI b := by rfl) (ha : a < 2 ^ 31 := by omega) (hb : b < 2 ^ 31 := by omega) : (x ≤ y → A) ∧ (¬ x ≤ y → B) := by
  subst hx hy
  rw [nI_leI ha hb]
  exact ⟨f, fun z => g (by omega)⟩
theorem pk_lt {x y : Int32} {A B : Prop} (a b : Nat) (f : a < b → A) (g : b ≤ a → B) (hx : x = nI a := by rfl) (hy : y = nI b := by rfl) (ha : a < 2 ^ 31 := by omega) (hb : b < 2 ^ 31 := by omega) : (x < y → A) ∧ (¬ x < y → B) := by
  subst hx hy
  rw [nI_ltI ha hb]
  exact ⟨f, fun z => g (by omega)⟩
theorem pk_eq {x y : Int32} {A B : Prop} (a b : Nat) (f : a = b → A) (g : a ≠ b → B) (hx : x = nI a := by rfl) (hy : y = nI b := by rfl) (ha : a < 2 ^ 31 := by omega) (hb : b < 2 ^ 31 := by omega) : (x = y → A) ∧ (¬ x = y → B) := by
  subst hx hy
  rw [nI_eq ha hb]
  exact ⟨f, g⟩
theorem sb_m1 {p : Nat} (h : 0 < p) : nI p + (-1) = nI (p - 1) := by
  obtain ⟨q, rfl⟩ : ∃ q, p = q + 1 := ⟨p - 1, by omega⟩
  exact pk_m1 q
end
section
/-! the pure picture: which spans of a text are expressions, how strong, with which last operator -/
def mx_w (t : Nat) : Int := if t = 18 then 1 else if t = 19 then -1 else 0
def mx_b (T : Nat → Nat) : Nat → Int
  | 0 => 0
  | n + 1 => mx_b T n + mx_w (T n)
theorem mx_b1 (T : Nat → Nat) (n : Nat) : mx_b T (n + 1) = mx_b T n + mx_w (T n) := rfl
theorem mx_w18 : mx_w 18 = 1 := if_pos rfl
theorem mx_w19 : mx_w 19 = -1 := by
  unfold mx_w
  rw [if_neg (by decide), if_pos rfl]
theorem mx_w0 {t : Nat} (h : t < 18) : mx_w t = 0 := by
  unfold mx_w
  rw [if_neg (by omega), if_neg (by omega)]
/-- the strength that a first, a second operand of an operator of level k must have -/
def mx_n1 (kd : Nat → Nat) (k : Nat) : Int := if kd k = 1 ∨ kd k = 2 then (k : Int) + 1 else (k : Int)
def mx_n2 (kd : Nat → Nat) (k : Nat) : Int := if kd k = 0 ∨ kd k = 2 then (k : Int) + 1 else (k : Int)
theorem mx_n1g (kd : Nat → Nat) (k : Nat) : (k : Int) ≤ mx_n1 kd k := by
  unfold mx_n1
  split <;> omega
theorem mx_n2g (kd : Nat → Nat) (k : Nat) : (k : Int) ≤ mx_n2 kd k := by
  unfold mx_n2
  split <;> omega
theorem mx_nn {kd : Nat → Nat} {k : Nat} (h : kd k < 5) (h3 : kd k ≠ 3) (h4 : kd k ≠ 4) (h1 : mx_n1 kd k ≤ (k : Int)) (h2 : mx_n2 kd k ≤ (k : Int)) : False := by
  unfold mx_n1 at h1
  unfold mx_n2 at h2
  split at h1
  · omega
  · split at h2
    · omega
    · omega
/-- the operator at r joins the span from i up to j -/
def mx_F (lv kd T : Nat → Nat) (S : Nat → Nat → Int) (i r j : Nat) : Prop :=
  i ≤ r ∧ r < j ∧ 10 ≤ T r ∧ T r < 18 ∧
  ((kd (lv (T r)) = 3 ∧ r = i) ∨ (kd (lv (T r)) ≠ 3 ∧ mx_n1 kd (lv (T r)) ≤ S i r)) ∧
  ((kd (lv (T r)) = 4 ∧ r + 1 = j) ∨ (kd (lv (T r)) ≠ 4 ∧ mx_n2 kd (lv (T r)) ≤ S (r + 1) j))
/-- the span is a pair of brackets around an expression -/
def mx_B (T : Nat → Nat) (S : Nat → Nat → Int) (i j : Nat) : Prop :=
  T i = 18 ∧ T (j - 1) = 19 ∧ 0 ≤ S (i + 1) (j - 1)
def mx_one (m a : Int32) : Int32 := if m = 0 then -a else if m = 1 then a + 1 else if m = 2 then 2 * a else 7 * a + 3
def mx_two (m a b : Int32) : Int32 := if m = 0 then a + b else if m = 1 then a - b else if m = 2 then a * b else 10 * a + b
def mx_jv (lv kd : Nat → Nat) (mn : Nat → Int32) (T : Nat → Nat) (V : Nat → Nat → Int32) (i r j : Nat) : Int32 :=
  if kd (lv (T r)) = 3 then mx_one (mn (T r)) (V (r + 1) j)
  else if kd (lv (T r)) = 4 then mx_one (mn (T r)) (V i r)
  else mx_two (mn (T r)) (V i r) (V (r + 1) j)
/-- what the three tables hold of the span from i up to j; cb: the mark of brackets -/
def mx_C (lv kd : Nat → Nat) (mn : Nat → Int32) (T : Nat → Nat) (cb : Int) (S : Nat → Nat → Int) (V : Nat → Nat → Int32) (O : Nat → Nat → Int) (i j : Nat) : Prop :=
  (j = i + 1 ∧ T i < 10 ∧ S i j = 5 ∧ O i j = -1 ∧ V i j = nI (T i)) ∨
  (mx_B T S i j ∧ S i j = 5 ∧ O i j = cb ∧ V i j = V (i + 1) (j - 1)) ∨
  (∃ r, mx_F lv kd T S i r j ∧ S i j = (lv (T r) : Int) ∧ O i j = (r : Int) ∧ V i j = mx_jv lv kd mn T V i r j) ∨
  (S i j = -1 ∧ ¬ (j = i + 1 ∧ T i < 10) ∧ ¬ mx_B T S i j ∧ ∀ r, ¬ mx_F lv kd T S i r j)
def mx_T (lv kd : Nat → Nat) (mn : Nat → Int32) (T : Nat → Nat) (n : Nat) (cb : Int) (S : Nat → Nat → Int) (V : Nat → Nat → Int32) (O : Nat → Nat → Int) : Prop :=
  (∀ i j, j ≤ i → S i j = -1) ∧ ∀ i j, i < j → j ≤ n → mx_C lv kd mn T cb S V O i j
/-- balanced, and no operator outside brackets is weaker than the span -/
def mx_D (lv T : Nat → Nat) (S : Nat → Nat → Int) (i j : Nat) : Prop :=
  mx_b T j = mx_b T i ∧ (∀ x, i ≤ x → x ≤ j → mx_b T i ≤ mx_b T x) ∧
  (∀ x, i ≤ x → x < j → 10 ≤ T x → T x < 18 → mx_b T x = mx_b T i → S i j ≤ (lv (T x) : Int))
theorem mx_D1 {lv kd T : Nat → Nat} {S : Nat → Nat → Int} {i r j : Nat} (hF : mx_F lv kd T S i r j)
    (ih : ∀ a b, i ≤ a → b ≤ j → b - a < j - i → 0 ≤ S a b → mx_D lv T S a b) :
    mx_b T r = mx_b T i ∧ mx_b T j = mx_b T i ∧ (∀ x, i ≤ x → x ≤ j → mx_b T i ≤ mx_b T x) ∧
    (∀ x, i ≤ x → x < r → 10 ≤ T x → T x < 18 → mx_b T x = mx_b T i → kd (lv (T r)) ≠ 3 ∧ mx_n1 kd (lv (T r)) ≤ (lv (T x) : Int)) ∧
    (∀ x, r < x → x < j → 10 ≤ T x → T x < 18 → mx_b T x = mx_b T i → kd (lv (T r)) ≠ 4 ∧ mx_n2 kd (lv (T r)) ≤ (lv (T x) : Int)) := by
  obtain ⟨h1, h2, h3, h4, hl, hr⟩ := hF
  have e1 : mx_b T (r + 1) = mx_b T r := by rw [mx_b1, mx_w0 h4, Int.add_zero]
  have g1 := mx_n1g kd (lv (T r))
  have g2 := mx_n2g kd (lv (T r))
  have L : mx_b T r = mx_b T i ∧ (∀ x, i ≤ x → x ≤ r → mx_b T i ≤ mx_b T x) ∧
      (∀ x, i ≤ x → x < r → 10 ≤ T x → T x < 18 → mx_b T x = mx_b T i → kd (lv (T r)) ≠ 3 ∧ mx_n1 kd (lv (T r)) ≤ (lv (T x) : Int)) := by
    rcases hl with ⟨_, e⟩ | ⟨k3, e⟩
    · refine ⟨by rw [e], fun x a b => ?_, fun x a b => ?_⟩
      · have hx : x = i := by omega
        rw [hx]
        exact Int.le_refl _
      · exfalso
        omega
    · obtain ⟨d2, d3, d4⟩ := ih i r (Nat.le_refl _) (by omega) (by omega) (by omega)
      exact ⟨d2, d3, fun x a b c d f => ⟨k3, Int.le_trans e (d4 x a b c d f)⟩⟩
  have R : mx_b T j = mx_b T (r + 1) ∧ (∀ x, r + 1 ≤ x → x ≤ j → mx_b T (r + 1) ≤ mx_b T x) ∧
      (∀ x, r + 1 ≤ x → x < j → 10 ≤ T x → T x < 18 → mx_b T x = mx_b T (r + 1) → kd (lv (T r)) ≠ 4 ∧ mx_n2 kd (lv (T r)) ≤ (lv (T x) : Int)) := by
    rcases hr with ⟨_, e⟩ | ⟨k4, e⟩
    · refine ⟨by rw [e], fun x a b => ?_, fun x a b => ?_⟩
      · have hx : x = r + 1 := by omega
        rw [hx]
        exact Int.le_refl _
      · exfalso
        omega
    · obtain ⟨d2, d3, d4⟩ := ih (r + 1) j (by omega) (Nat.le_refl _) (by omega) (by omega)
      exact ⟨d2, d3, fun x a b c d f => ⟨k4, Int.le_trans e (d4 x a b c d f)⟩⟩
  obtain ⟨l1, l2, l3⟩ := L
  obtain ⟨r1, r2, r3⟩ := R
  refine ⟨l1, by omega, fun x a b => ?_, l3, fun x a b c d f => r3 x a b c d (by omega)⟩
  by_cases hx : x ≤ r
  · exact l2 x a hx
  · have z := r2 x (by omega) b
    omega
section
variable {lv kd : Nat → Nat} {mn : Nat → Int32} {T : Nat → Nat} {n : Nat} {cb : Int} {S : Nat → Nat → Int} {V : Nat → Nat → Int32} {O : Nat → Nat → Int}
theorem mx_ps (h : mx_T lv kd mn T n cb S V O) {a b : Nat} (z : 0 ≤ S a b) : a < b := by
  by_cases c : a < b
  · exact c
  · have e := h.1 a b (by omega)
    omega
theorem mx_dk (h : mx_T lv kd mn T n cb S V O) : ∀ w i j, j ≤ i + w → j ≤ n → 0 ≤ S i j → mx_D lv T S i j := by
  intro w
  induction w with
  | zero =>
    intro i j h1 _ h3
    have hij := mx_ps h h3
    omega
  | succ w ih =>
    intro i j h1 h2 h3
    have hij := mx_ps h h3
    rcases h.2 i j hij h2 with ⟨a, b, c, _⟩ | ⟨⟨a, b, c⟩, d, _⟩ | ⟨r, hF, c, _⟩ | ⟨c, _⟩
    · have e : mx_b T j = mx_b T i := by rw [a, mx_b1, mx_w0 (by omega), Int.add_zero]
      refine ⟨e, fun x p q => ?_, fun x p q z => ?_⟩
      · have hx : x = i ∨ x = j := by omega
        rcases hx with hx | hx
        · rw [hx]
          exact Int.le_refl _
        · rw [hx]
          omega
      · have hx : x = i := by omega
        rw [hx] at z
        omega
    · have z := mx_ps h c
      obtain ⟨d1, d2, _⟩ := ih (i + 1) (j - 1) (by omega) (by omega) c
      have e1 : mx_b T (i + 1) = mx_b T i + 1 := by rw [mx_b1, a, mx_w18]
      have e2 : mx_b T (j - 1 + 1) = mx_b T (j - 1) + -1 := by rw [mx_b1, b, mx_w19]
      have e3 : j - 1 + 1 = j := by omega
      rw [e3] at e2
      refine ⟨by omega, fun x p q => ?_, fun x p q u v y => ?_⟩
      · by_cases hx : x = i
        · rw [hx]
          exact Int.le_refl _
        · by_cases hy : x = j
          · rw [hy]
            omega
          · have := d2 x (by omega) (by omega)
            omega
      · exfalso
        by_cases hx : x = i
        · rw [hx] at v
          omega
        · by_cases hy : x = j - 1
          · rw [hy] at v
            omega
          · have := d2 x (by omega) (by omega)
            omega
    · have g1 := mx_n1g kd (lv (T r))
      have g2 := mx_n2g kd (lv (T r))
      obtain ⟨a1, a2, a3, a4, a5⟩ := mx_D1 hF (fun a b p q s z => ih a b (by omega) (by omega) z)
      refine ⟨a2, a3, fun x p q u v y => ?_⟩
      by_cases hx : x < r
      · have := (a4 x p hx u v y).2
        omega
      · by_cases hy : x = r
        · rw [hy]
          omega
        · have := (a5 x (by omega) q u v y).2
          omega
    · omega
theorem mx_un1 (hk : ∀ k, kd k < 5) (h : mx_T lv kd mn T n cb S V O) {i j r1 r2 : Nat} (hj : j ≤ n) (h1 : mx_F lv kd T S i r1 j) (h2 : mx_F lv kd T S i r2 j) (hlt : r1 < r2) : False := by
  have ih : ∀ a b, i ≤ a → b ≤ j → b - a < j - i → 0 ≤ S a b → mx_D lv T S a b := fun a b _ q _ z => mx_dk h b a b (by omega) (by omega) z
  obtain ⟨a1, _, _, _, a5⟩ := mx_D1 h1 ih
  obtain ⟨b1, _, _, b4, _⟩ := mx_D1 h2 ih
  obtain ⟨p1, p2, p3, p4, _, _⟩ := h1
  obtain ⟨q1, q2, q3, q4, _, _⟩ := h2
  obtain ⟨c1, c2⟩ := a5 r2 hlt q2 q3 q4 b1
  obtain ⟨d1, d2⟩ := b4 r1 p1 hlt p3 p4 a1
  have g1 := mx_n1g kd (lv (T r2))
  have g2 := mx_n2g kd (lv (T r1))
  have e : lv (T r1) = lv (T r2) := by omega
  rw [e] at c1 c2 d2
  exact mx_nn (hk _) d1 c1 d2 c2
theorem mx_un (hk : ∀ k, kd k < 5) (h : mx_T lv kd mn T n cb S V O) {i j r1 r2 : Nat} (hj : j ≤ n) (h1 : mx_F lv kd T S i r1 j) (h2 : mx_F lv kd T S i r2 j) : r1 = r2 := by
  rcases Nat.lt_trichotomy r1 r2 with c | c | c
  · exact (mx_un1 hk h hj h1 h2 c).elim
  · exact c
  · exact (mx_un1 hk h hj h2 h1 c).elim
theorem mx_ex (h : mx_T lv kd mn T n cb S V O) {i j r : Nat} (hj : j ≤ n) (hF : mx_F lv kd T S i r j) (hB : mx_B T S i j) : False := by
  have ih : ∀ a b, i ≤ a → b ≤ j → b - a < j - i → 0 ≤ S a b → mx_D lv T S a b := fun a b _ q _ z => mx_dk h b a b (by omega) (by omega) z
  obtain ⟨a1, _⟩ := mx_D1 hF ih
  obtain ⟨p1, p2, p3, p4, _⟩ := hF
  obtain ⟨b1, b2, b3⟩ := hB
  have z := mx_ps h b3
  obtain ⟨_, d2, _⟩ := mx_dk h j (i + 1) (j - 1) (by omega) (by omega) b3
  have e1 : mx_b T (i + 1) = mx_b T i + 1 := by rw [mx_b1, b1, mx_w18]
  by_cases c1 : r = i
  · rw [c1] at p4
    omega
  · by_cases c2 : r = j - 1
    · rw [c2] at p4
      omega
    · have := d2 r (by omega) (by omega)
      omega
theorem mx_rdF (hk : ∀ k, kd k < 5) (h : mx_T lv kd mn T n cb S V O) {i j r : Nat} (hj : j ≤ n) (hF : mx_F lv kd T S i r j) :
    S i j = (lv (T r) : Int) ∧ O i j = (r : Int) ∧ V i j = mx_jv lv kd mn T V i r j := by
  have p1 := hF.1
  have p2 := hF.2.1
  have p3 := hF.2.2.1
  rcases h.2 i j (by omega) hj with ⟨a, b, _⟩ | ⟨hB, _⟩ | ⟨r', hF', e⟩ | ⟨_, _, _, c⟩
  · have hr : r = i := by omega
    rw [hr] at p3
    omega
  · exact (mx_ex h hj hF hB).elim
  · have hr := mx_un hk h hj hF hF'
    subst hr
    exact e
  · exact (c r hF).elim
theorem mx_rdB (h : mx_T lv kd mn T n cb S V O) {i j : Nat} (hj : j ≤ n) (hB : mx_B T S i j) :
    S i j = 5 ∧ O i j = cb ∧ V i j = V (i + 1) (j - 1) := by
  have z := mx_ps h hB.2.2
  rcases h.2 i j (by omega) hj with ⟨a, b, _⟩ | ⟨_, e⟩ | ⟨r', hF', e⟩ | ⟨_, _, c, _⟩
  · have := hB.1
    omega
  · exact e
  · exact (mx_ex h hj hF' hB).elim
  · exact (c hB).elim
theorem mx_rdN (h : mx_T lv kd mn T n cb S V O) {i j : Nat} (hj : j ≤ n) (h1 : j = i + 1) (h2 : T i < 10) :
    S i j = 5 ∧ O i j = -1 ∧ V i j = nI (T i) := by
  rcases h.2 i j (by omega) hj with ⟨_, _, e⟩ | ⟨hB, e⟩ | ⟨r, hF, e⟩ | ⟨_, c, _, _⟩
  · exact e
  · have := hB.1
    omega
  · have p1 := hF.1
    have p2 := hF.2.1
    have p3 := hF.2.2.1
    have hr : r = i := by omega
    rw [hr] at p3
    omega
  · exact (c ⟨h1, h2⟩).elim
end
end
section
/-! a span's cell is the text's alone: the same text at another place has the same cell -/
section
variable {lv kd : Nat → Nat} {mn : Nat → Int32} {T T' : Nat → Nat} {n n' : Nat} {cb cb' : Int} {S S' : Nat → Nat → Int} {V V' : Nat → Nat → Int32} {O O' : Nat → Nat → Int}
theorem mx_Ft {i r j i2 r2 j2 : Nat} (hF : mx_F lv kd T S i r j) (a : i2 ≤ r2) (b : r2 < j2) (hT : T' r2 = T r) (hi : r = i → r2 = i2) (hj : r + 1 = j → r2 + 1 = j2)
    (e1 : kd (lv (T r)) ≠ 3 → mx_n1 kd (lv (T r)) ≤ S i r → mx_n1 kd (lv (T r)) ≤ S' i2 r2)
    (e2 : kd (lv (T r)) ≠ 4 → mx_n2 kd (lv (T r)) ≤ S (r + 1) j → mx_n2 kd (lv (T r)) ≤ S' (r2 + 1) j2) : mx_F lv kd T' S' i2 r2 j2 := by
  obtain ⟨_, _, h3, h4, hl, hr⟩ := hF
  unfold mx_F
  rw [hT]
  refine ⟨a, b, h3, h4, ?_, ?_⟩
  · rcases hl with ⟨p, q⟩ | ⟨p, q⟩
    · exact Or.inl ⟨p, hi q⟩
    · exact Or.inr ⟨p, e1 p q⟩
  · rcases hr with ⟨p, q⟩ | ⟨p, q⟩
    · exact Or.inl ⟨p, hj q⟩
    · exact Or.inr ⟨p, e2 p q⟩
theorem mx_jvt {i r j i2 r2 j2 : Nat} (t : T' r2 = T r) (v1 : kd (lv (T r)) ≠ 3 → V' i2 r2 = V i r) (v2 : kd (lv (T r)) ≠ 4 → V' (r2 + 1) j2 = V (r + 1) j) :
    mx_jv lv kd mn T' V' i2 r2 j2 = mx_jv lv kd mn T V i r j := by
  unfold mx_jv
  rw [t]
  by_cases k3 : kd (lv (T r)) = 3
  · rw [if_pos k3, if_pos k3, v2 (by omega)]
  · rw [if_neg k3, if_neg k3, v1 k3]
    by_cases k4 : kd (lv (T r)) = 4
    · rw [if_pos k4, if_pos k4]
    · rw [if_neg k4, if_neg k4, v2 k4]
/-- the same cells within: the same cell -/
theorem mx_Cc {a b : Nat} (hS : ∀ c d, a ≤ c → d ≤ b → S' c d = S c d) (hV : ∀ c d, a ≤ c → d ≤ b → c < d → V' c d = V c d) (hO : O' a b = O a b) (hab : a < b)
    (hpos : ∀ c d, d ≤ c → S c d = -1) (h : mx_C lv kd mn T cb S V O a b) : mx_C lv kd mn T cb S' V' O' a b := by
  have eS := hS a b (Nat.le_refl _) (Nat.le_refl _)
  have eV := hV a b (Nat.le_refl _) (Nat.le_refl _) hab
  have bu : mx_B T S' a b → mx_B T S a b := fun ⟨x1, x2, x3⟩ => ⟨x1, x2, by rw [← hS (a + 1) (b - 1) (by omega) (by omega)]; exact x3⟩
  have fu : ∀ r, mx_F lv kd T S' a r b → mx_F lv kd T S a r b := by
    intro r hF
    have p1 := hF.1
    have p2 := hF.2.1
    exact mx_Ft hF p1 p2 rfl (fun z => z) (fun z => z) (fun _ z => by rw [← hS a r (by omega) (by omega)]; exact z) (fun _ z => by rw [← hS (r + 1) b (by omega) (by omega)]; exact z)
  rcases h with ⟨a1, a2, a3, a4, a5⟩ | ⟨⟨b1, b2, b3⟩, a3, a4, a5⟩ | ⟨r, hF, a3, a4, a5⟩ | ⟨a3, a4, a5, a6⟩
  · exact Or.inl ⟨a1, a2, eS.trans a3, hO.trans a4, eV.trans a5⟩
  · have z : a + 1 < b - 1 := by
      by_cases c : a + 1 < b - 1
      · exact c
      · have := hpos (a + 1) (b - 1) (by omega)
        omega
    refine Or.inr (Or.inl ⟨⟨b1, b2, ?_⟩, eS.trans a3, hO.trans a4, ?_⟩)
    · rw [hS (a + 1) (b - 1) (by omega) (by omega)]
      exact b3
    · rw [hV (a + 1) (b - 1) (by omega) (by omega) z]
      exact eV.trans a5
  · have p1 := hF.1
    have p2 := hF.2.1
    have g1 := mx_n1g kd (lv (T r))
    have g2 := mx_n2g kd (lv (T r))
    refine Or.inr (Or.inr (Or.inl ⟨r, ?_, eS.trans a3, hO.trans a4, ?_⟩))
    · exact mx_Ft hF p1 p2 rfl (fun z => z) (fun z => z) (fun _ z => by rw [hS a r (by omega) (by omega)]; exact z) (fun _ z => by rw [hS (r + 1) b (by omega) (by omega)]; exact z)
    · refine (eV.trans a5).trans (mx_jvt rfl ?_ ?_).symm
      · intro k3
        have hl := hF.2.2.2.2.1
        refine hV a r (by omega) (by omega) ?_
        by_cases c : a < r
        · exact c
        · have := hpos a r (by omega)
          omega
      · intro k4
        have hr := hF.2.2.2.2.2
        refine hV (r + 1) b (by omega) (by omega) ?_
        by_cases c : r + 1 < b
        · exact c
        · have := hpos (r + 1) b (by omega)
          omega
  · exact Or.inr (Or.inr (Or.inr ⟨eS.trans a3, a4, fun z => a5 (bu z), fun r z => a6 r (fu r z)⟩))
def mx_OC (cb cb' : Int) (c : Nat) (o' o : Int) : Prop := (0 ≤ o' ∧ o = o' + c) ∨ (o' = -1 ∧ o = -1) ∨ (o' = cb' ∧ o = cb)
theorem mx_tr (hk : ∀ k, kd k < 5) (h : mx_T lv kd mn T n cb S V O) (h' : mx_T lv kd mn T' n' cb' S' V' O') {a b c : Nat} (hb : b ≤ n') (hc : b + c ≤ n)
    (hT : ∀ x, a ≤ x → x < b → T' x = T (x + c)) :
    ∀ w i j, j ≤ i + w → a ≤ i → j ≤ b → S' i j = S (i + c) (j + c) ∧ (0 ≤ S' i j → V' i j = V (i + c) (j + c) ∧ mx_OC cb cb' c (O' i j) (O (i + c) (j + c))) := by
  intro w
  induction w with
  | zero =>
    intro i j h1 h2 h3
    rw [h.1 (i + c) (j + c) (by omega), h'.1 i j (by omega)]
    exact ⟨rfl, fun z => absurd z (by decide)⟩
  | succ w ih =>
    intro i j h1 h2 h3
    by_cases hij : i < j
    · have up : ∀ r, mx_F lv kd T' S' i r j → mx_F lv kd T S (i + c) (r + c) (j + c) := by
        intro r hF
        have p1 := hF.1
        have p2 := hF.2.1
        refine mx_Ft hF (by omega) (by omega) (hT r (by omega) (by omega)).symm (by omega) (by omega) (fun _ z => ?_) (fun _ z => ?_)
        · rw [← (ih i r (by omega) (by omega) (by omega)).1]
          exact z
        · have e : r + c + 1 = r + 1 + c := by omega
          rw [e, ← (ih (r + 1) j (by omega) (by omega) (by omega)).1]
          exact z
      have dn : ∀ r, ¬ mx_F lv kd T' S' i r j → ¬ mx_F lv kd T S (i + c) (r + c) (j + c) := by
        intro r hn hF
        have p1 := hF.1
        have p2 := hF.2.1
        refine hn (mx_Ft hF (by omega) (by omega) (hT r (by omega) (by omega)) (by omega) (by omega) (fun _ z => ?_) (fun _ z => ?_))
        · rw [(ih i r (by omega) (by omega) (by omega)).1]
          exact z
        · have e : r + c + 1 = r + 1 + c := by omega
          rw [e] at z
          rw [(ih (r + 1) j (by omega) (by omega) (by omega)).1]
          exact z
      have e1 : i + 1 + c = i + c + 1 := by omega
      rcases h'.2 i j hij (by omega) with ⟨x1, x2, x3, x4, x5⟩ | ⟨hB, x3, x4, x5⟩ | ⟨r, hF, x3, x4, x5⟩ | ⟨x3, x4, x5, x6⟩
      · have t := hT i (by omega) (by omega)
        obtain ⟨y3, y4, y5⟩ := mx_rdN h (i := i + c) (j := j + c) (by omega) (by omega) (by rw [← t]; exact x2)
        exact ⟨x3.trans y3.symm, fun _ => ⟨by rw [x5, y5, t], Or.inr (Or.inl ⟨x4, y4⟩)⟩⟩
      · obtain ⟨b1, b2, b3⟩ := hB
        have z := mx_ps h' b3
        have e := ih (i + 1) (j - 1) (by omega) (by omega) (by omega)
        have e2 : j - 1 + c = j + c - 1 := by omega
        have t1 := hT i (by omega) (by omega)
        have t2 := hT (j - 1) (by omega) (by omega)
        rw [e1, e2] at e
        rw [e2] at t2
        have hB2 : mx_B T S (i + c) (j + c) := ⟨t1.symm.trans b1, t2.symm.trans b2, by rw [← e.1]; exact b3⟩
        obtain ⟨y3, y4, y5⟩ := mx_rdB h (by omega) hB2
        exact ⟨x3.trans y3.symm, fun _ => ⟨by rw [x5, y5]; exact (e.2 b3).1, Or.inr (Or.inr ⟨x4, y4⟩)⟩⟩
      · obtain ⟨y3, y4, y5⟩ := mx_rdF hk h (by omega) (up r hF)
        obtain ⟨p1, p2, _, _, hl, hr⟩ := hF
        have t := hT r (by omega) (by omega)
        have g1 := mx_n1g kd (lv (T' r))
        have g2 := mx_n2g kd (lv (T' r))
        refine ⟨by rw [x3, y3, t], fun _ => ⟨?_, Or.inl ⟨by omega, by omega⟩⟩⟩
        rw [x5, y5]
        refine (mx_jvt t.symm ?_ ?_).symm
        · intro k3
          exact ((ih i r (by omega) (by omega) (by omega)).2 (by omega)).1.symm
        · intro k4
          have e : r + c + 1 = r + 1 + c := by omega
          rw [e]
          exact ((ih (r + 1) j (by omega) (by omega) (by omega)).2 (by omega)).1.symm
      · refine ⟨?_, fun z => by omega⟩
        rcases h.2 (i + c) (j + c) (by omega) (by omega) with ⟨a1, a2, _⟩ | ⟨⟨b1, b2, b3⟩, _⟩ | ⟨r, hF, _⟩ | ⟨a1, _⟩
        · exact (x4 ⟨by omega, by rw [hT i (by omega) (by omega)]; exact a2⟩).elim
        · have z := mx_ps h b3
          have e := ih (i + 1) (j - 1) (by omega) (by omega) (by omega)
          have e2 : j - 1 + c = j + c - 1 := by omega
          have t1 := hT i (by omega) (by omega)
          have t2 := hT (j - 1) (by omega) (by omega)
          rw [e1, e2] at e
          rw [e2] at t2
          exact (x5 ⟨t1.trans b1, t2.trans b2, by rw [e.1]; exact b3⟩).elim
        · have p1 := hF.1
          obtain ⟨y, rfl⟩ : ∃ y, r = y + c := ⟨r - c, by omega⟩
          exact (dn y (x6 y) hF).elim
        · exact x3.trans a1.symm
    · rw [h.1 (i + c) (j + c) (by omega), h'.1 i j (by omega)]
      exact ⟨rfl, fun z => absurd z (by decide)⟩
end
theorem mx_s3 {a b a' b' : Nat} {c c' : Int} (h : some (a, b, c) = some (a', b', c')) : a = a' ∧ b = b' ∧ c = c' := by
  injection h with h
  injection h with h1 h
  injection h with h2 h3
  exact ⟨h1, h2, h3⟩
/-! the walk from a span down to the part that a token is the number, bracket or last operator of -/
def mx_s (lv kd T : Nat → Nat) (O : Nat → Nat → Int) (x i j : Nat) : Option (Nat × Nat × Int) :=
  if 0 ≤ O i j then
    if (x : Int) = O i j then none
    else if (x : Int) < O i j then some (i, (O i j).toNat, mx_n1 kd (lv (T (O i j).toNat)))
    else some ((O i j).toNat + 1, j, mx_n2 kd (lv (T (O i j).toNat)))
  else if x = i ∨ x + 1 = j then none else some (i + 1, j - 1, 0)
/-- d steps lead from the span i, j with the need m to the span f, t with the need q, where the walk stops -/
def mx_K (lv kd T : Nat → Nat) (O : Nat → Nat → Int) (x : Nat) : Nat → Nat → Nat → Int → Nat → Nat → Int → Prop
  | 0, i, j, m, f, t, q => mx_s lv kd T O x i j = none ∧ f = i ∧ t = j ∧ q = m
  | d + 1, i, j, _, f, t, q => ∃ i' j' m', mx_s lv kd T O x i j = some (i', j', m') ∧ mx_K lv kd T O x d i' j' m' f t q
def mx_N (lv kd T : Nat → Nat) (O : Nat → Nat → Int) (x i j f t : Nat) : Prop := ∃ d m q, mx_K lv kd T O x d i j m f t q
section
variable {lv kd T : Nat → Nat} {O : Nat → Nat → Int} {i j x r : Nat}
theorem mx_sE (h : O i j = (r : Int)) : mx_s lv kd T O r i j = none := by
  unfold mx_s
  rw [h, if_pos (by omega), if_pos rfl]
theorem mx_sL (h : O i j = (r : Int)) (hx : x < r) : mx_s lv kd T O x i j = some (i, r, mx_n1 kd (lv (T r))) := by
  have e : ((r : Int)).toNat = r := rfl
  unfold mx_s
  rw [h, if_pos (by omega), if_neg (by omega), if_pos (by omega), e]
theorem mx_sR (h : O i j = (r : Int)) (hx : r < x) : mx_s lv kd T O x i j = some (r + 1, j, mx_n2 kd (lv (T r))) := by
  have e : ((r : Int)).toNat = r := rfl
  unfold mx_s
  rw [h, if_pos (by omega), if_neg (by omega), if_neg (by omega), e]
theorem mx_sB (h : O i j < 0) (h1 : x ≠ i) (h2 : x + 1 ≠ j) : mx_s lv kd T O x i j = some (i + 1, j - 1, 0) := by
  unfold mx_s
  rw [if_neg (by omega), if_neg (by omega)]
theorem mx_sN (h : O i j < 0) (h1 : x = i ∨ x + 1 = j) : mx_s lv kd T O x i j = none := by
  unfold mx_s
  rw [if_neg (by omega), if_pos h1]
theorem mx_Km {d : Nat} {m q : Int} {f t : Nat} (m' : Int) (h : mx_K lv kd T O x d i j m f t q) : ∃ q', mx_K lv kd T O x d i j m' f t q' := by
  cases d with
  | zero =>
    obtain ⟨h1, h2, h3, _⟩ := h
    exact ⟨m', h1, h2, h3, rfl⟩
  | succ d => exact ⟨q, h⟩
theorem mx_N0 (hs : mx_s lv kd T O x i j = none) : mx_N lv kd T O x i j i j := ⟨0, 0, 0, hs, rfl, rfl, rfl⟩
theorem mx_N1 {i' j' f t : Nat} {m' : Int} (hs : mx_s lv kd T O x i j = some (i', j', m')) (h : mx_N lv kd T O x i' j' f t) : mx_N lv kd T O x i j f t := by
  obtain ⟨d, m, q, hK⟩ := h
  obtain ⟨q', hK'⟩ := mx_Km m' hK
  exact ⟨d + 1, 0, q', i', j', m', hs, hK'⟩
theorem mx_N2 {i' j' f t : Nat} {m' : Int} (hs : mx_s lv kd T O x i j = some (i', j', m')) (h : mx_N lv kd T O x i j f t) : mx_N lv kd T O x i' j' f t := by
  obtain ⟨d, m, q, hK⟩ := h
  cases d with
  | zero =>
    obtain ⟨e, _⟩ := hK
    rw [hs] at e
    cases e
  | succ d =>
    obtain ⟨a, b, c, e, hK⟩ := hK
    rw [hs] at e
    cases e
    exact ⟨d, m', q, hK⟩
theorem mx_N3 {f t : Nat} (hs : mx_s lv kd T O x i j = none) (h : mx_N lv kd T O x i j f t) : f = i ∧ t = j := by
  obtain ⟨d, m, q, hK⟩ := h
  cases d with
  | zero =>
    obtain ⟨_, h2, h3, _⟩ := hK
    exact ⟨h2, h3⟩
  | succ d =>
    obtain ⟨a, b, c, e, _⟩ := hK
    rw [hs] at e
    cases e
end
theorem mx_Nu {lv kd T : Nat → Nat} {O : Nat → Nat → Int} {x : Nat} : ∀ d i j m f t q f' t', mx_K lv kd T O x d i j m f t q → mx_N lv kd T O x i j f' t' → f' = f ∧ t' = t := by
  intro d
  induction d with
  | zero =>
    intro i j m f t q f' t' h h'
    obtain ⟨h1, h2, h3, _⟩ := h
    rw [h2, h3]
    exact mx_N3 h1 h'
  | succ d ih =>
    intro i j m f t q f' t' h h'
    obtain ⟨a, b, c, e, hK⟩ := h
    exact ih a b c f t q f' t' hK (mx_N2 e h')
end
section
/-! where the walk goes, and what taking a pair of brackets out does to it -/
section
variable {lv kd : Nat → Nat} {mn : Nat → Int32} {T : Nat → Nat} {n : Nat} {cb : Int} {S : Nat → Nat → Int} {V : Nat → Nat → Int32} {O : Nat → Nat → Int}
theorem mx_vw (h : mx_T lv kd mn T n cb S V O) {i j : Nat} (hj : j ≤ n) (h0 : 0 ≤ S i j) :
    i < j ∧ ((j = i + 1 ∧ T i < 10 ∧ O i j = -1 ∧ S i j = 5) ∨ (mx_B T S i j ∧ O i j = cb ∧ S i j = 5 ∧ i + 1 < j - 1) ∨ ∃ r, mx_F lv kd T S i r j ∧ O i j = (r : Int) ∧ S i j = (lv (T r) : Int)) := by
  have hij := mx_ps h h0
  refine ⟨hij, ?_⟩
  rcases h.2 i j hij hj with ⟨a1, a2, a3, a4, _⟩ | ⟨hB, a3, a4, _⟩ | ⟨r, hF, a3, a4, _⟩ | ⟨a3, _⟩
  · exact Or.inl ⟨a1, a2, a4, a3⟩
  · exact Or.inr (Or.inl ⟨hB, a4, a3, mx_ps h hB.2.2⟩)
  · exact Or.inr (Or.inr ⟨r, hF, a4, a3⟩)
  · omega
/-- one step goes into a smaller span that is an expression, as strong as its place asks for -/
theorem mx_pg (h : mx_T lv kd mn T n cb S V O) (hcb : cb < 0) {i j x i' j' : Nat} {m' : Int} (hj : j ≤ n) (h0 : 0 ≤ S i j) (hx : i ≤ x) (hy : x < j)
    (hs : mx_s lv kd T O x i j = some (i', j', m')) : i ≤ i' ∧ j' ≤ j ∧ i' ≤ x ∧ x < j' ∧ j' - i' < j - i ∧ 0 ≤ m' ∧ m' ≤ S i' j' := by
  obtain ⟨hij, c⟩ := mx_vw h hj h0
  rcases c with ⟨a1, a2, a3, a4⟩ | ⟨hB, a3, a4, a5⟩ | ⟨r, hF, a3, a4⟩
  · rw [mx_sN (by omega) (by omega)] at hs
    cases hs
  · by_cases e : x = i ∨ x + 1 = j
    · rw [mx_sN (by omega) e] at hs
      cases hs
    · rw [mx_sB (by omega) (by omega) (by omega)] at hs
      obtain ⟨rfl, rfl, rfl⟩ := mx_s3 hs
      have := hB.2.2
      refine ⟨by omega, by omega, by omega, by omega, by omega, by omega, by omega⟩
  · obtain ⟨p1, p2, p3, p4, hl, hr⟩ := hF
    have g1 := mx_n1g kd (lv (T r))
    have g2 := mx_n2g kd (lv (T r))
    by_cases e1 : x < r
    · rw [mx_sL a3 e1] at hs
      obtain ⟨rfl, rfl, rfl⟩ := mx_s3 hs
      refine ⟨by omega, by omega, by omega, by omega, by omega, by omega, by omega⟩
    · by_cases e2 : x = r
      · rw [e2, mx_sE a3] at hs
        cases hs
      · rw [mx_sR a3 (by omega)] at hs
        obtain ⟨rfl, rfl, rfl⟩ := mx_s3 hs
        refine ⟨by omega, by omega, by omega, by omega, by omega, by omega, by omega⟩
theorem mx_Kf (h : mx_T lv kd mn T n cb S V O) (hcb : cb < 0) {x : Nat} : ∀ d i j m f t q, j ≤ n → 0 ≤ S i j → i ≤ x → x < j → m ≤ S i j → 0 ≤ m → mx_K lv kd T O x d i j m f t q →
    i ≤ f ∧ t ≤ j ∧ f ≤ x ∧ x < t ∧ q ≤ S f t ∧ 0 ≤ q ∧ 0 ≤ S f t ∧ mx_s lv kd T O x f t = none ∧ d + (t - f) ≤ j - i := by
  intro d
  induction d with
  | zero =>
    intro i j m f t q h1 h2 h3 h4 h5 h6 hK
    obtain ⟨k1, k2, k3, k4⟩ := hK
    subst k2 k3 k4
    exact ⟨Nat.le_refl _, Nat.le_refl _, h3, h4, h5, h6, h2, k1, by omega⟩
  | succ d ih =>
    intro i j m f t q h1 h2 h3 h4 h5 h6 hK
    obtain ⟨i', j', m', e, hK⟩ := hK
    obtain ⟨a1, a2, a3, a4, a5, a6, a7⟩ := mx_pg h hcb h1 h2 h3 h4 e
    obtain ⟨b1, b2, b3, b4, b5, b6, b7, b8, b9⟩ := ih i' j' m' f t q (by omega) (by omega) a3 a4 a7 a6 hK
    exact ⟨by omega, by omega, b3, b4, b5, b6, b7, b8, by omega⟩
theorem mx_Ke (h : mx_T lv kd mn T n cb S V O) (hcb : cb < 0) {x : Nat} : ∀ w i j m, j ≤ i + w → j ≤ n → 0 ≤ S i j → i ≤ x → x < j → ∃ d f t q, mx_K lv kd T O x d i j m f t q := by
  intro w
  induction w with
  | zero =>
    intro i j m h1 _ _ _ _
    omega
  | succ w ih =>
    intro i j m h1 h2 h3 h4 h5
    cases hs : mx_s lv kd T O x i j with
    | none => exact ⟨0, i, j, m, hs, rfl, rfl, rfl⟩
    | some y =>
      obtain ⟨i', j', m'⟩ := y
      obtain ⟨a1, a2, a3, a4, a5, a6, a7⟩ := mx_pg h hcb h2 h3 h4 h5 hs
      obtain ⟨d, f, t, q, hK⟩ := ih i' j' m' (by omega) (by omega) (by omega) a3 a4
      exact ⟨d + 1, f, t, q, i', j', m', hs, hK⟩
/-- an operator's walk stops at a span that it is the last operator of -/
theorem mx_fo (h : mx_T lv kd mn T n cb S V O) (hcb : cb < 0) {x f t : Nat} (ht : t ≤ n) (h0 : 0 ≤ S f t) (hx : f ≤ x) (hy : x < t) (h1 : 10 ≤ T x) (h2 : T x < 18) (hs : mx_s lv kd T O x f t = none) :
    O f t = (x : Int) ∧ mx_F lv kd T S f x t := by
  obtain ⟨hij, c⟩ := mx_vw h ht h0
  rcases c with ⟨a1, a2, a3, a4⟩ | ⟨hB, a3, a4, a5⟩ | ⟨r, hF, a3, a4⟩
  · have e : x = f := by omega
    rw [e] at h1
    omega
  · by_cases e : x = f
    · have := hB.1
      rw [e] at h2
      omega
    · by_cases e2 : x = t - 1
      · have := hB.2.1
        rw [e2] at h2
        omega
      · rw [mx_sB (by omega) e (by omega)] at hs
        cases hs
  · by_cases e1 : x < r
    · rw [mx_sL a3 e1] at hs
      cases hs
    · by_cases e2 : x = r
      · rw [e2]
        exact ⟨a3, hF⟩
      · rw [mx_sR a3 (by omega)] at hs
        cases hs
/-- the walk to a pair's first bracket stops at the pair -/
theorem mx_fb (h : mx_T lv kd mn T n cb S V O) (hcb : cb < 0) {x f t : Nat} (ht : t ≤ n) (h0 : 0 ≤ S f t) (hx : f ≤ x) (hy : x < t) (h1 : T x = 18) (hs : mx_s lv kd T O x f t = none) :
    f = x ∧ mx_B T S x t ∧ x + 1 < t - 1 := by
  obtain ⟨hij, c⟩ := mx_vw h ht h0
  rcases c with ⟨a1, a2, a3, a4⟩ | ⟨hB, a3, a4, a5⟩ | ⟨r, hF, a3, a4⟩
  · have e : x = f := by omega
    rw [e] at h1
    omega
  · by_cases e : x = f
    · rw [e]
      exact ⟨rfl, hB, a5⟩
    · by_cases e2 : x = t - 1
      · have := hB.2.1
        rw [e2] at h1
        omega
      · rw [mx_sB (by omega) e (by omega)] at hs
        cases hs
  · by_cases e1 : x < r
    · rw [mx_sL a3 e1] at hs
      cases hs
    · by_cases e2 : x = r
      · have := hF.2.2.2.1
        rw [← e2] at this
        omega
      · rw [mx_sR a3 (by omega)] at hs
        cases hs
/-- the place that a walk's last step came from -/
theorem mx_bk (h : mx_T lv kd mn T n cb S V O) (hcb : cb < 0) {p g : Nat} {nd : Int} : ∀ d i j m, j ≤ n → 0 ≤ S i j → i ≤ p → p < j → mx_K lv kd T O p d i j m p g nd →
    (nd = m ∧ i = p ∧ j = g) ∨ nd = 0 ∨ ∃ r f t, i ≤ r ∧ r < j ∧ 10 ≤ T r ∧ T r < 18 ∧ mx_N lv kd T O r i j f t ∧
      ((f = p ∧ r = g ∧ nd = mx_n1 kd (lv (T r)) ∧ kd (lv (T r)) ≠ 3) ∨ (r + 1 = p ∧ t = g ∧ nd = mx_n2 kd (lv (T r)) ∧ kd (lv (T r)) ≠ 4)) := by
  intro d
  induction d with
  | zero =>
    intro i j m h1 h2 h3 h4 hK
    obtain ⟨k1, k2, k3, k4⟩ := hK
    exact Or.inl ⟨k4, k2.symm, k3.symm⟩
  | succ d ih =>
    intro i j m h1 h2 h3 h4 hK
    obtain ⟨i', j', m', e, hK⟩ := hK
    obtain ⟨b1, b2, b3, b4, b5, b6, b7⟩ := mx_pg h hcb h1 h2 h3 h4 e
    have IH := ih i' j' m' (by omega) (by omega) b3 b4 hK
    obtain ⟨hij, c⟩ := mx_vw h h1 h2
    rcases c with ⟨a1, a2, a3, a4⟩ | ⟨hB, a3, a4, a5⟩ | ⟨r, hF, a3, a4⟩
    · rw [mx_sN (by omega) (by omega)] at e
      cases e
    · by_cases z : p = i ∨ p + 1 = j
      · rw [mx_sN (by omega) z] at e
        cases e
      · rw [mx_sB (by omega) (by omega) (by omega)] at e
        obtain ⟨rfl, rfl, rfl⟩ := mx_s3 e
        rcases IH with ⟨c1, _, _⟩ | c1 | ⟨r, f, t, r1, r2, r3, r4, r5, r6⟩
        · exact Or.inr (Or.inl c1)
        · exact Or.inr (Or.inl c1)
        · exact Or.inr (Or.inr ⟨r, f, t, by omega, by omega, r3, r4, mx_N1 (mx_sB (by omega) (by omega) (by omega)) r5, r6⟩)
    · obtain ⟨p1, p2, p3, p4, hl, hr⟩ := hF
      by_cases e1 : p < r
      · rw [mx_sL a3 e1] at e
        obtain ⟨rfl, rfl, rfl⟩ := mx_s3 e
        rcases IH with ⟨c1, c2, c3⟩ | c1 | ⟨r', f, t, r1, r2, r3, r4, r5, r6⟩
        · refine Or.inr (Or.inr ⟨r, i, j, p1, p2, p3, p4, mx_N0 (mx_sE a3), Or.inl ⟨c2, c3, c1, ?_⟩⟩)
          omega
        · exact Or.inr (Or.inl c1)
        · exact Or.inr (Or.inr ⟨r', f, t, by omega, by omega, r3, r4, mx_N1 (mx_sL a3 (by omega)) r5, r6⟩)
      · by_cases e2 : p = r
        · rw [e2, mx_sE a3] at e
          cases e
        · rw [mx_sR a3 (by omega)] at e
          obtain ⟨rfl, rfl, rfl⟩ := mx_s3 e
          rcases IH with ⟨c1, c2, c3⟩ | c1 | ⟨r', f, t, r1, r2, r3, r4, r5, r6⟩
          · refine Or.inr (Or.inr ⟨r, i, j, p1, p2, p3, p4, mx_N0 (mx_sE a3), Or.inr ⟨c2, c3, c1, ?_⟩⟩)
            omega
          · exact Or.inr (Or.inl c1)
          · exact Or.inr (Or.inr ⟨r', f, t, by omega, by omega, r3, r4, mx_N1 (mx_sR a3 (by omega)) r5, r6⟩)
end
section
variable {lv kd : Nat → Nat} {mn : Nat → Int32} {T T' : Nat → Nat} {n n' : Nat} {cb cb' : Int} {S S' : Nat → Nat → Int} {V V' : Nat → Nat → Int32} {O O' : Nat → Nat → Int}
/-- the walk in the same text at another place -/
theorem mx_tK (hk : ∀ k, kd k < 5) (h : mx_T lv kd mn T n cb S V O) (h' : mx_T lv kd mn T' n' cb' S' V' O') (hcb : cb < 0) (hcb' : cb' < 0) {a b c x : Nat} (hb : b ≤ n') (hc : b + c ≤ n)
    (hT : ∀ x, a ≤ x → x < b → T' x = T (x + c)) : ∀ d i j m f t q, a ≤ i → j ≤ b → 0 ≤ S' i j → i ≤ x → x < j → mx_K lv kd T O (x + c) d (i + c) (j + c) m f t q →
      ∃ f' t', f = f' + c ∧ t = t' + c ∧ mx_K lv kd T' O' x d i j m f' t' q := by
  have tr := mx_tr hk h h' hb hc hT
  have st : ∀ i j, a ≤ i → j ≤ b → 0 ≤ S' i j → i ≤ x → x < j →
      (mx_s lv kd T O (x + c) (i + c) (j + c) = none → mx_s lv kd T' O' x i j = none) ∧
      (∀ i2 j2 m2, mx_s lv kd T O (x + c) (i + c) (j + c) = some (i2, j2, m2) → ∃ i' j', i2 = i' + c ∧ j2 = j' + c ∧ mx_s lv kd T' O' x i j = some (i', j', m2)) := by
    intro i j h1 h2 h3 h4 h5
    have oc := ((tr j i j (by omega) h1 h2).2 h3).2
    obtain ⟨hij, cs⟩ := mx_vw h' (by omega) h3
    rcases cs with ⟨a1, a2, a3, a4⟩ | ⟨hB, a3, a4, a5⟩ | ⟨r, hF, a3, a4⟩
    · have o : O (i + c) (j + c) < 0 := by
        rcases oc with ⟨c1, c2⟩ | ⟨c1, c2⟩ | ⟨c1, c2⟩ <;> omega
      refine ⟨fun _ => mx_sN (by omega) (by omega), fun i2 j2 m2 e => ?_⟩
      rw [mx_sN o (by omega)] at e
      cases e
    · have o : O (i + c) (j + c) < 0 := by
        rcases oc with ⟨c1, c2⟩ | ⟨c1, c2⟩ | ⟨c1, c2⟩ <;> omega
      by_cases z : x = i ∨ x + 1 = j
      · refine ⟨fun _ => mx_sN (by omega) z, fun i2 j2 m2 e => ?_⟩
        rw [mx_sN o (by omega)] at e
        cases e
      · have e0 : mx_s lv kd T O (x + c) (i + c) (j + c) = some (i + c + 1, j + c - 1, 0) := mx_sB o (by omega) (by omega)
        refine ⟨fun e => ?_, fun i2 j2 m2 e => ?_⟩
        · rw [e0] at e
          cases e
        · rw [e0] at e
          cases e
          exact ⟨i + 1, j - 1, by omega, by omega, mx_sB (by omega) (by omega) (by omega)⟩
    · have p1 := hF.1
      have p2 := hF.2.1
      have o : O (i + c) (j + c) = ((r + c : Nat) : Int) := by
        rcases oc with ⟨c1, c2⟩ | ⟨c1, c2⟩ | ⟨c1, c2⟩ <;> omega
      have t := hT r (by omega) (by omega)
      by_cases e1 : x < r
      · have e0 := mx_sL (lv := lv) (kd := kd) (T := T) (x := x + c) o (by omega)
        refine ⟨fun e => ?_, fun i2 j2 m2 e => ?_⟩
        · rw [e0] at e
          cases e
        · rw [e0] at e
          cases e
          refine ⟨i, r, rfl, rfl, ?_⟩
          rw [← t]
          exact mx_sL a3 e1
      · by_cases e2 : x = r
        · subst e2
          refine ⟨fun _ => mx_sE a3, fun i2 j2 m2 e => ?_⟩
          rw [mx_sE o] at e
          cases e
        · have e0 := mx_sR (lv := lv) (kd := kd) (T := T) (x := x + c) o (by omega)
          refine ⟨fun e => ?_, fun i2 j2 m2 e => ?_⟩
          · rw [e0] at e
            cases e
          · rw [e0] at e
            cases e
            refine ⟨r + 1, j, by omega, rfl, ?_⟩
            rw [← t]
            exact mx_sR a3 (by omega)
  intro d
  induction d with
  | zero =>
    intro i j m f t q h1 h2 h3 h4 h5 hK
    obtain ⟨k1, k2, k3, k4⟩ := hK
    exact ⟨i, j, k2, k3, (st i j h1 h2 h3 h4 h5).1 k1, rfl, rfl, k4⟩
  | succ d ih =>
    intro i j m f t q h1 h2 h3 h4 h5 hK
    obtain ⟨i2, j2, m2, e, hK⟩ := hK
    obtain ⟨i', j', e1, e2, e3⟩ := (st i j h1 h2 h3 h4 h5).2 i2 j2 m2 e
    subst e1 e2
    obtain ⟨b1, b2, b3, b4, b5, b6, b7⟩ := mx_pg h' hcb' (by omega) h3 h4 h5 e3
    obtain ⟨f', t', c1, c2, c3⟩ := ih i' j' m2 f t q (by omega) (by omega) (by omega) b3 b4 hK
    exact ⟨f', t', c1, c2, i', j', m2, e3, c3⟩
theorem mx_tN (hk : ∀ k, kd k < 5) (h : mx_T lv kd mn T n cb S V O) (h' : mx_T lv kd mn T' n' cb' S' V' O') (hcb : cb < 0) (hcb' : cb' < 0) {a b c : Nat} (hb : b ≤ n') (hc : b + c ≤ n)
    (hT : ∀ x, a ≤ x → x < b → T' x = T (x + c)) {x i j f t : Nat} (h1 : a ≤ i) (h2 : j ≤ b) (h3 : 0 ≤ S' i j) (h4 : i ≤ x) (h5 : x < j) (hN : mx_N lv kd T O (x + c) (i + c) (j + c) f t) :
    ∃ f' t', f = f' + c ∧ t = t' + c ∧ mx_N lv kd T' O' x i j f' t' := by
  obtain ⟨d, m, q, hK⟩ := hN
  obtain ⟨f', t', c1, c2, c3⟩ := mx_tK hk h h' hcb hcb' hb hc hT d i j m f t q h1 h2 h3 h4 h5 hK
  exact ⟨f', t', c1, c2, d, m, q, c3⟩
end
end
section
/-! a pair of brackets at p and g is taken out: place x of the text becomes mx_o p g x -/
def mx_o (p g x : Nat) : Nat := x - (if p < x then 1 else 0) - (if g < x then 1 else 0)
theorem mx_o1 {p g x : Nat} (hp : p < g) (h : x ≤ p) : mx_o p g x = x := by
  unfold mx_o
  rw [if_neg (by omega), if_neg (by omega)]
  rfl
theorem mx_o2 {p g x : Nat} (h1 : p < x) (h2 : x ≤ g) : mx_o p g x = x - 1 := by
  unfold mx_o
  rw [if_pos h1, if_neg (by omega)]
  rfl
theorem mx_o3 {p g x : Nat} (hp : p < g) (h : g < x) : mx_o p g x = x - 2 := by
  unfold mx_o
  rw [if_pos (by omega), if_pos h]
  rfl
/-- the text without the pair -/
def mx_Q (T T' : Nat → Nat) (p g n : Nat) : Prop :=
  p + 1 < g ∧ g < n ∧ (∀ x, x < p → T' x = T x) ∧ (∀ x, p ≤ x → x < g - 1 → T' x = T (x + 1)) ∧ (∀ x, g - 1 ≤ x → x < n - 2 → T' x = T (x + 2))
theorem mx_Qo {T T' : Nat → Nat} {p g n x : Nat} (h : mx_Q T T' p g n) (hx : x < n) (h1 : x ≠ p) (h2 : x ≠ g) : T' (mx_o p g x) = T x := by
  obtain ⟨q1, q2, q3, q4, q5⟩ := h
  by_cases c1 : x < p
  · rw [mx_o1 (by omega) (by omega)]
    exact q3 x c1
  · by_cases c2 : x < g
    · rw [mx_o2 (by omega) (by omega), q4 (x - 1) (by omega) (by omega)]
      exact congrArg T (by omega)
    · rw [mx_o3 (by omega) (by omega), q5 (x - 2) (by omega) (by omega)]
      exact congrArg T (by omega)
section
variable {lv kd : Nat → Nat} {mn : Nat → Int32} {T T' : Nat → Nat} {n p g : Nat} {cb cb' : Int} {S S' : Nat → Nat → Int} {V V' : Nat → Nat → Int32} {O O' : Nat → Nat → Int}
/-- spans that the pair isn't in -/
theorem mx_av (hk : ∀ k, kd k < 5) (h : mx_T lv kd mn T n cb S V O) (h' : mx_T lv kd mn T' (n - 2) cb' S' V' O') (hcb : cb < 0) (hcb' : cb' < 0) (hQ : mx_Q T T' p g n)
    {i j : Nat} (hj : j ≤ n) (hij : i < j) (hd : j ≤ p ∨ (p < i ∧ j ≤ g) ∨ g < i) :
    S' (mx_o p g i) (mx_o p g j) = S i j ∧ (0 ≤ S i j → ∀ x f t, i ≤ x → x < j → mx_N lv kd T O x i j f t →
      mx_N lv kd T' O' (mx_o p g x) (mx_o p g i) (mx_o p g j) (mx_o p g f) (mx_o p g t)) := by
  obtain ⟨q1, q2, q3, q4, q5⟩ := hQ
  have fin : ∀ x f t, 0 ≤ S i j → i ≤ x → x < j → mx_N lv kd T O x i j f t → i ≤ f ∧ t ≤ j ∧ f ≤ x ∧ x < t := by
    intro x f t h0 h1 h2 hN
    obtain ⟨d, m, q, hK⟩ := hN
    obtain ⟨q', hK'⟩ := mx_Km 0 hK
    obtain ⟨a1, a2, a3, a4, _⟩ := mx_Kf h hcb d i j 0 f t q' hj h0 h1 h2 h0 (Int.le_refl _) hK'
    exact ⟨a1, a2, a3, a4⟩
  rcases hd with hd | ⟨hd1, hd2⟩ | hd
  · have hT : ∀ x, 0 ≤ x → x < p → T' x = T (x + 0) := fun x _ z => q3 x z
    have tr := mx_tr hk h h' (a := 0) (b := p) (c := 0) (by omega) (by omega) hT j i j (by omega) (by omega) hd
    rw [mx_o1 (by omega) (by omega), mx_o1 (by omega) hd]
    refine ⟨tr.1, fun h0 x f t h1 h2 hN => ?_⟩
    obtain ⟨a1, a2, a3, a4⟩ := fin x f t h0 h1 h2 hN
    obtain ⟨f', t', e1, e2, hN'⟩ := mx_tN hk h h' hcb hcb' (a := 0) (b := p) (c := 0) (x := x) (i := i) (j := j) (by omega) (by omega) hT (by omega) hd (by rw [tr.1]; exact h0) h1 h2 hN
    rw [mx_o1 (by omega) (by omega), mx_o1 (by omega) (by omega), mx_o1 (by omega) (by omega)]
    have e1' : f = f' := e1
    have e2' : t = t' := e2
    rw [e1', e2']
    exact hN'
  · obtain ⟨i0, rfl⟩ : ∃ i0, i = i0 + 1 := ⟨i - 1, by omega⟩
    obtain ⟨j0, rfl⟩ : ∃ j0, j = j0 + 1 := ⟨j - 1, by omega⟩
    have tr := mx_tr hk h h' (a := p) (b := g - 1) (c := 1) (by omega) (by omega) q4 j0 i0 j0 (by omega) (by omega) (by omega)
    have oi : mx_o p g (i0 + 1) = i0 := mx_o2 (by omega) (by omega)
    have oj : mx_o p g (j0 + 1) = j0 := mx_o2 (by omega) (by omega)
    rw [oi, oj]
    refine ⟨tr.1, fun h0 x f t h1 h2 hN => ?_⟩
    obtain ⟨a1, a2, a3, a4⟩ := fin x f t h0 h1 h2 hN
    obtain ⟨x0, rfl⟩ : ∃ x0, x = x0 + 1 := ⟨x - 1, by omega⟩
    obtain ⟨f', t', e1, e2, hN'⟩ := mx_tN hk h h' hcb hcb' (a := p) (b := g - 1) (c := 1) (x := x0) (i := i0) (j := j0) (by omega) (by omega) q4 (by omega) (by omega) (by rw [tr.1]; exact h0) (by omega) (by omega) hN
    subst e1 e2
    have ox : mx_o p g (x0 + 1) = x0 := mx_o2 (by omega) (by omega)
    have ef : mx_o p g (f' + 1) = f' := mx_o2 (by omega) (by omega)
    have ot : mx_o p g (t' + 1) = t' := mx_o2 (by omega) (by omega)
    rw [ox, ef, ot]
    exact hN'
  · obtain ⟨i0, rfl⟩ : ∃ i0, i = i0 + 2 := ⟨i - 2, by omega⟩
    obtain ⟨j0, rfl⟩ : ∃ j0, j = j0 + 2 := ⟨j - 2, by omega⟩
    have tr := mx_tr hk h h' (a := g - 1) (b := n - 2) (c := 2) (by omega) (by omega) q5 j0 i0 j0 (by omega) (by omega) (by omega)
    have oi : mx_o p g (i0 + 2) = i0 := mx_o3 (by omega) (by omega)
    have oj : mx_o p g (j0 + 2) = j0 := mx_o3 (by omega) (by omega)
    rw [oi, oj]
    refine ⟨tr.1, fun h0 x f t h1 h2 hN => ?_⟩
    obtain ⟨a1, a2, a3, a4⟩ := fin x f t h0 h1 h2 hN
    obtain ⟨x0, rfl⟩ : ∃ x0, x = x0 + 2 := ⟨x - 2, by omega⟩
    obtain ⟨f', t', e1, e2, hN'⟩ := mx_tN hk h h' hcb hcb' (a := g - 1) (b := n - 2) (c := 2) (x := x0) (i := i0) (j := j0) (by omega) (by omega) q5 (by omega) (by omega) (by rw [tr.1]; exact h0) (by omega) (by omega) hN
    subst e1 e2
    have ox : mx_o p g (x0 + 2) = x0 := mx_o3 (by omega) (by omega)
    have ef : mx_o p g (f' + 2) = f' := mx_o3 (by omega) (by omega)
    have ot : mx_o p g (t' + 2) = t' := mx_o3 (by omega) (by omega)
    rw [ox, ef, ot]
    exact hN'
/-- if what is within is strong enough, all that is around the pair stays as it was -/
theorem mx_kp (hk : ∀ k, kd k < 5) (h : mx_T lv kd mn T n cb S V O) (h' : mx_T lv kd mn T' (n - 2) cb' S' V' O') (hcb : cb < 0) (hcb' : cb' < 0) (hQ : mx_Q T T' p g n)
    (h18 : T p = 18) (h19 : T g = 19) {nd : Int} (hn : nd ≤ S (p + 1) g) :
    ∀ d i j m, j ≤ n → m ≤ S i j → 0 ≤ m → i ≤ p → p < j → mx_K lv kd T O p d i j m p (g + 1) nd →
      m ≤ S' (mx_o p g i) (mx_o p g j) ∧ ∀ x f t, i ≤ x → x < j → 10 ≤ T x → T x < 18 → mx_N lv kd T O x i j f t →
      mx_N lv kd T' O' (mx_o p g x) (mx_o p g i) (mx_o p g j) (mx_o p g f) (mx_o p g t) := by
  have q1 := hQ.1
  have q2 := hQ.2.1
  have xp : ∀ x, 10 ≤ T x → T x < 18 → x ≠ p ∧ x ≠ g := by
    intro x x1 x2
    constructor
    · intro e
      rw [e] at x2
      omega
    · intro e
      rw [e] at x2
      omega
  have op1 : mx_o p g p = p := mx_o1 (by omega) (by omega)
  have ogg : mx_o p g g = g - 1 := mx_o2 (by omega) (by omega)
  have og1 : mx_o p g (g + 1) = g - 1 := by
    rw [mx_o3 (by omega) (by omega)]
    omega
  have opp : mx_o p g (p + 1) = p := mx_o2 (by omega) (by omega)
  intro d
  induction d with
  | zero =>
    intro i j m hj h1 h2 h3 h4 hK
    obtain ⟨k1, k2, k3, k4⟩ := hK
    subst k2 k3 k4
    obtain ⟨v1, v2⟩ := mx_av hk h h' hcb hcb' hQ (i := p + 1) (j := g) (by omega) (by omega) (by omega)
    rw [opp, ogg] at v1 v2
    rw [op1, og1]
    refine ⟨by omega, fun x f t x1 x2 x3 x4 hN => ?_⟩
    obtain ⟨y1, y2⟩ := xp x x3 x4
    have i0 : 0 ≤ S (p + 1) g := by omega
    obtain ⟨hij, c⟩ := mx_vw h (i := p) hj (by omega)
    have o : O p (g + 1) < 0 := by
      rcases c with ⟨a1, a2, a3, a4⟩ | ⟨hB, a3, a4, a5⟩ | ⟨r, hF, a3, a4⟩
      · omega
      · omega
      · exfalso
        have b1 := hF.1
        have b2 := hF.2.1
        have b4 := hF.2.2.2.1
        by_cases e1 : p < r
        · rw [mx_sL a3 e1] at k1
          cases k1
        · have e2 : r = p := by omega
          rw [e2] at b4
          omega
    exact v2 i0 x f t (by omega) (by omega) (mx_N2 (mx_sB o y1 (by omega)) hN)
  | succ d ih =>
    intro i j m hj h1 h2 h3 h4 hK
    obtain ⟨i', j', m', e, hK⟩ := hK
    obtain ⟨b1, b2, b3, b4, b5, b6, b7⟩ := mx_pg h hcb hj (by omega) h3 h4 e
    obtain ⟨I1, I2⟩ := ih i' j' m' (by omega) b7 b6 b3 b4 hK
    obtain ⟨w1, w2, w3, w4, _⟩ := mx_Kf h hcb d i' j' m' p (g + 1) nd (by omega) (by omega) b3 b4 b7 b6 hK
    obtain ⟨hij, c⟩ := mx_vw h (i := i) hj (by omega)
    rcases c with ⟨a1, a2, a3, a4⟩ | ⟨hB, a3, a4, a5⟩ | ⟨r, hF, a3, a4⟩
    · rw [mx_sN (by omega) (by omega)] at e
      cases e
    · by_cases z : p = i ∨ p + 1 = j
      · rw [mx_sN (by omega) z] at e
        cases e
      · rw [mx_sB (by omega) (by omega) (by omega)] at e
        obtain ⟨rfl, rfl, rfl⟩ := mx_s3 e
        have oi : mx_o p g i = i := mx_o1 (by omega) (by omega)
        have oi1 : mx_o p g (i + 1) = i + 1 := mx_o1 (by omega) (by omega)
        have oj : mx_o p g j = j - 2 := mx_o3 (by omega) (by omega)
        have oj1 : mx_o p g (j - 1) = j - 2 - 1 := by
          rw [mx_o3 (by omega) (by omega)]
          omega
        rw [oi1, oj1] at I1 I2
        have t1 := mx_Qo hQ (x := i) (by omega) (by omega) (by omega)
        have t2 := mx_Qo hQ (x := j - 1) (by omega) (by omega) (by omega)
        rw [oi] at t1
        rw [oj1] at t2
        have hB' : mx_B T' S' i (j - 2) := ⟨t1.trans hB.1, t2.trans hB.2.1, I1⟩
        obtain ⟨y3, y4, _⟩ := mx_rdB h' (by omega) hB'
        rw [oi, oj]
        refine ⟨by omega, fun x f t x1 x2 x3 x4 hN => ?_⟩
        have xi : x ≠ i := by
          intro e
          rw [e] at x4
          have := hB.1
          omega
        have xj : x ≠ j - 1 := by
          intro e
          rw [e] at x4
          have := hB.2.1
          omega
        obtain ⟨y1, y2⟩ := xp x x3 x4
        have n1 := I2 x f t (by omega) (by omega) x3 x4 (mx_N2 (mx_sB (by omega) xi (by omega)) hN)
        refine mx_N1 (mx_sB (by omega) ?_ ?_) n1
        · by_cases c1 : x ≤ p
          · rw [mx_o1 (by omega) c1]
            omega
          · by_cases c2 : x ≤ g
            · rw [mx_o2 (by omega) c2]
              omega
            · rw [mx_o3 (by omega) (by omega)]
              omega
        · by_cases c1 : x ≤ p
          · rw [mx_o1 (by omega) c1]
            omega
          · by_cases c2 : x ≤ g
            · rw [mx_o2 (by omega) c2]
              omega
            · rw [mx_o3 (by omega) (by omega)]
              omega
    · have p1 := hF.1
      have p2 := hF.2.1
      have p3 := hF.2.2.1
      have p4 := hF.2.2.2.1
      have hl := hF.2.2.2.2.1
      have hr := hF.2.2.2.2.2
      have g1 := mx_n1g kd (lv (T r))
      have g2 := mx_n2g kd (lv (T r))
      obtain ⟨z1, z2⟩ := xp r p3 p4
      have tr := mx_Qo hQ (x := r) (by omega) z1 z2
      by_cases e1 : p < r
      · rw [mx_sL a3 e1] at e
        obtain ⟨rfl, rfl, rfl⟩ := mx_s3 e
        have oi : mx_o p g i = i := mx_o1 (by omega) (by omega)
        have oj : mx_o p g j = j - 2 := mx_o3 (by omega) (by omega)
        have er : mx_o p g r = r - 2 := mx_o3 (by omega) (by omega)
        have er1 : r + 1 < j → mx_o p g (r + 1) = r - 2 + 1 := fun _ => by
          rw [mx_o3 (by omega) (by omega)]
          omega
        rw [oi, er] at I1 I2
        rw [er] at tr
        have F' : mx_F lv kd T' S' i (r - 2) (j - 2) := by
          refine mx_Ft hF (by omega) (by omega) tr (by omega) (by omega) (fun _ _ => I1) (fun _ u => ?_)
          have lt : r + 1 < j := mx_ps h (by omega)
          have v := (mx_av hk h h' hcb hcb' hQ (i := r + 1) (j := j) hj lt (by omega)).1
          rw [er1 lt, oj] at v
          rw [v]
          exact u
        obtain ⟨y3, y4, _⟩ := mx_rdF hk h' (by omega) F'
        rw [tr] at y3
        rw [oi, oj]
        refine ⟨by omega, fun x f t x1 x2 x3 x4 hN => ?_⟩
        obtain ⟨u1, u2⟩ := xp x x3 x4
        by_cases c1 : x < r
        · have n1 := I2 x f t x1 c1 x3 x4 (mx_N2 (mx_sL a3 c1) hN)
          refine mx_N1 (mx_sL y4 ?_) n1
          by_cases c2 : x ≤ p
          · rw [mx_o1 (by omega) c2]
            omega
          · by_cases c3 : x ≤ g
            · rw [mx_o2 (by omega) c3]
              omega
            · rw [mx_o3 (by omega) (by omega)]
              omega
        · by_cases c2 : x = r
          · subst c2
            obtain ⟨n1, n2⟩ := mx_N3 (mx_sE a3) hN
            rw [n1, n2, er, oi, oj]
            exact mx_N0 (mx_sE y4)
          · have lt : r + 1 < j := by omega
            have n1 := (mx_av hk h h' hcb hcb' hQ (i := r + 1) (j := j) hj lt (by omega)).2 (by omega) x f t (by omega) x2 (mx_N2 (mx_sR a3 (by omega)) hN)
            rw [er1 lt, oj] at n1
            refine mx_N1 (mx_sR y4 ?_) n1
            rw [mx_o3 (by omega) (by omega)]
            omega
      · by_cases e2 : p = r
        · rw [e2, mx_sE a3] at e
          cases e
        · rw [mx_sR a3 (by omega)] at e
          obtain ⟨rfl, rfl, rfl⟩ := mx_s3 e
          have oi : mx_o p g i = i := mx_o1 (by omega) (by omega)
          have oj : mx_o p g j = j - 2 := mx_o3 (by omega) (by omega)
          have er : mx_o p g r = r := mx_o1 (by omega) (by omega)
          have er1 : mx_o p g (r + 1) = r + 1 := mx_o1 (by omega) (by omega)
          rw [er1, oj] at I1 I2
          rw [er] at tr
          have F' : mx_F lv kd T' S' i r (j - 2) := by
            refine mx_Ft hF (by omega) (by omega) tr (by omega) (by omega) (fun _ u => ?_) (fun _ _ => I1)
            have lt : i < r := mx_ps h (by omega)
            have v := (mx_av hk h h' hcb hcb' hQ (i := i) (j := r) (by omega) lt (by omega)).1
            rw [oi, er] at v
            rw [v]
            exact u
          obtain ⟨y3, y4, _⟩ := mx_rdF hk h' (by omega) F'
          rw [tr] at y3
          rw [oi, oj]
          refine ⟨by omega, fun x f t x1 x2 x3 x4 hN => ?_⟩
          obtain ⟨u1, u2⟩ := xp x x3 x4
          by_cases c1 : x < r
          · have lt : i < r := by omega
            have n1 := (mx_av hk h h' hcb hcb' hQ (i := i) (j := r) (by omega) lt (by omega)).2 (by omega) x f t x1 c1 (mx_N2 (mx_sL a3 c1) hN)
            rw [oi, er] at n1
            refine mx_N1 (mx_sL y4 ?_) n1
            rw [mx_o1 (by omega) (by omega)]
            exact c1
          · by_cases c2 : x = r
            · subst c2
              obtain ⟨n1, n2⟩ := mx_N3 (mx_sE a3) hN
              rw [n1, n2, er, oi, oj]
              exact mx_N0 (mx_sE y4)
            · have n1 := I2 x f t (by omega) x2 x3 x4 (mx_N2 (mx_sR a3 (by omega)) hN)
              refine mx_N1 (mx_sR y4 ?_) n1
              by_cases c3 : x ≤ p
              · rw [mx_o1 (by omega) c3]
                omega
              · by_cases c4 : x ≤ g
                · rw [mx_o2 (by omega) c4]
                  omega
                · rw [mx_o3 (by omega) (by omega)]
                  omega
/-- the pair could go just when what is within is as strong as its place asks for -/
theorem mx_sp (hk : ∀ k, kd k < 5) (h : mx_T lv kd mn T n cb S V O) (h' : mx_T lv kd mn T' (n - 2) cb' S' V' O') (hcb : cb < 0) (hcb' : cb' < 0) (hQ : mx_Q T T' p g n)
    (h18 : T p = 18) (h19 : T g = 19) (hi : 0 ≤ S (p + 1) g) (h0 : 0 ≤ S 0 n) {nd : Int} {d : Nat} (hK : mx_K lv kd T O p d 0 n 0 p (g + 1) nd) :
    nd ≤ S (p + 1) g ↔ (0 ≤ S' 0 (n - 2) ∧ ∀ x f t f' t', x < n → 10 ≤ T x → T x < 18 → mx_N lv kd T O x 0 n f t → mx_N lv kd T' O' (mx_o p g x) 0 (n - 2) f' t' → f' = mx_o p g f ∧ t' = mx_o p g t) := by
  have q1 := hQ.1
  have q2 := hQ.2.1
  have o0 : mx_o p g 0 = 0 := mx_o1 (by omega) (by omega)
  have en : mx_o p g n = n - 2 := mx_o3 (by omega) (by omega)
  constructor
  · intro hn
    obtain ⟨I1, I2⟩ := mx_kp hk h h' hcb hcb' hQ h18 h19 hn d 0 n 0 (Nat.le_refl _) h0 (Int.le_refl _) (by omega) (by omega) hK
    rw [o0, en] at I1 I2
    refine ⟨I1, fun x f t f' t' x1 x2 x3 hN hN' => ?_⟩
    obtain ⟨d2, m2, q2, hK2⟩ := I2 x f t (by omega) x1 x2 x3 hN
    exact mx_Nu d2 0 (n - 2) m2 _ _ q2 f' t' hK2 hN'
  · intro ⟨hS', hc⟩
    rcases mx_bk h hcb d 0 n 0 (Nat.le_refl _) h0 (by omega) (by omega) hK with ⟨c1, _, _⟩ | c1 | ⟨r, f, t, r1, r2, r3, r4, r5, r6⟩
    · omega
    · omega
    · have z1 : r ≠ p := by
        intro e
        rw [e] at r4
        omega
      have z2 : r ≠ g := by
        intro e
        rw [e] at r4
        omega
      have tr := mx_Qo hQ (x := r) r2 z1 z2
      have lr : mx_o p g r < n - 2 := by
        by_cases c2 : r ≤ p
        · rw [mx_o1 (by omega) c2]
          omega
        · by_cases c3 : r ≤ g
          · rw [mx_o2 (by omega) c3]
            omega
          · rw [mx_o3 (by omega) (by omega)]
            omega
      obtain ⟨d', f', t', q', hK'⟩ := mx_Ke h' hcb' (x := mx_o p g r) (n - 2) 0 (n - 2) 0 (by omega) (Nat.le_refl _) hS' (by omega) lr
      obtain ⟨e1, e2⟩ := hc r f t f' t' r2 r3 r4 r5 ⟨d', 0, q', hK'⟩
      obtain ⟨w1, w2, w3, w4, w5, w6, w7, w8, _⟩ := mx_Kf h' hcb' d' 0 (n - 2) 0 f' t' q' (Nat.le_refl _) hS' (by omega) lr hS' (Int.le_refl _) hK'
      obtain ⟨_, F'⟩ := mx_fo h' hcb' w2 w7 w3 w4 (by rw [tr]; exact r3) (by rw [tr]; exact r4) w8
      obtain ⟨_, _, _, _, hl, hr⟩ := F'
      rw [tr] at hl hr
      have v := (mx_av hk h h' hcb hcb' hQ (i := p + 1) (j := g) (by omega) (by omega) (by omega)).1
      have opp : mx_o p g (p + 1) = p := mx_o2 (by omega) (by omega)
      have ogg : mx_o p g g = g - 1 := mx_o2 (by omega) (by omega)
      have op1 : mx_o p g p = p := mx_o1 (by omega) (by omega)
      have og1 : mx_o p g (g + 1) = g - 1 := by
        rw [mx_o3 (by omega) (by omega)]
        omega
      rw [opp, ogg] at v
      rcases r6 with ⟨s1, s2, s3, s4⟩ | ⟨s1, s2, s3, s4⟩
      · rcases hl with ⟨y1, _⟩ | ⟨_, y2⟩
        · exact (s4 y1).elim
        · rw [e1, s1, s2, op1, og1, v] at y2
          rw [s2] at s3
          omega
      · rcases hr with ⟨y1, _⟩ | ⟨_, y2⟩
        · exact (s4 y1).elim
        · have er : mx_o p g r = r := mx_o1 (by omega) (by omega)
          rw [e2, s2, er, s1, og1, v] at y2
          omega
end
end
section
/-! the reference's stack of spans: a list, its top first -/
def mx_L (a : Nat → Int32) : List (Nat × Nat) → Prop
  | [] => True
  | x :: l => a l.length = nI (17 * x.1 + x.2) ∧ mx_L a l
theorem mx_Lu {a : Nat → Int32} {k : Nat} {v : Int32} : ∀ {l : List (Nat × Nat)}, mx_L a l → l.length ≤ k → mx_L (upd a k v) l := by
  intro l
  induction l with
  | nil => intro _ _; trivial
  | cons x l ih =>
    intro h hk
    have hk' : l.length + 1 ≤ k := hk
    refine ⟨?_, ih h.2 (by omega)⟩
    rw [pk_un (by omega)]
    exact h.1
theorem mx_Lp {a : Nat → Int32} {l : List (Nat × Nat)} {i j : Nat} (h : mx_L a l) : mx_L (upd a l.length (nI (17 * i + j))) ((i, j) :: l) :=
  ⟨pk_us, mx_Lu h (Nat.le_refl _)⟩
def mx_Z : List (Nat × Nat) → Nat
  | [] => 0
  | x :: l => (x.2 - x.1) + mx_Z l
def mx_I (lv kd T : Nat → Nat) (n : Nat) (S : Nat → Nat → Int) (O : Nat → Nat → Int) (fr tu : Nat → Int32) (l : List (Nat × Nat)) : Prop :=
  (∀ e, e ∈ l → e.1 < e.2 ∧ e.2 ≤ n ∧ 0 ≤ S e.1 e.2 ∧ ∀ x f t, e.1 ≤ x → x < e.2 → mx_N lv kd T O x 0 n f t → mx_N lv kd T O x e.1 e.2 f t) ∧
  (∀ x, x < n → 10 ≤ T x → T x < 18 → (∃ e, e ∈ l ∧ e.1 ≤ x ∧ x < e.2) ∨ ∀ f t, mx_N lv kd T O x 0 n f t → fr x = nI f ∧ tu x = nI t)
theorem mx_Il : ∀ {l : List (Nat × Nat)}, (∀ e, e ∈ l → e.1 < e.2) → l.length ≤ mx_Z l := by
  intro l
  induction l with
  | nil => intro _; exact Nat.le_refl _
  | cons x l ih =>
    intro h
    have h1 := h x (List.mem_cons_self ..)
    have h2 := ih (fun e he => h e (List.mem_cons_of_mem _ he))
    show l.length + 1 ≤ (x.2 - x.1) + mx_Z l
    omega
section
variable {lv kd : Nat → Nat} {mn : Nat → Int32} {T : Nat → Nat} {n : Nat} {cb : Int} {S : Nat → Nat → Int} {V : Nat → Nat → Int32} {O : Nat → Nat → Int} {fr tu : Nat → Int32} {l : List (Nat × Nat)} {i j : Nat}
theorem mx_I0 (h0 : 0 ≤ S 0 n) (hn : 0 < n) : mx_I lv kd T n S O fr tu [(0, n)] := by
  refine ⟨fun e he => ?_, fun x hx _ _ => Or.inl ⟨(0, n), List.mem_cons_self .., Nat.zero_le _, hx⟩⟩
  have e1 : e = (0, n) := List.mem_singleton.mp he
  subst e1
  exact ⟨hn, Nat.le_refl _, h0, fun x f t _ _ z => z⟩
theorem mx_IN (h : mx_T lv kd mn T n cb S V O) (hI : mx_I lv kd T n S O fr tu ((i, j) :: l)) (h1 : j = i + 1) (h2 : T i < 10) : mx_I lv kd T n S O fr tu l := by
  refine ⟨fun e he => hI.1 e (List.mem_cons_of_mem _ he), fun x hx x1 x2 => ?_⟩
  rcases hI.2 x hx x1 x2 with ⟨e, he, c1, c2⟩ | c
  · rcases List.mem_cons.mp he with c3 | c3
    · subst c3
      have e1 : x = i := by
        have c1' : i ≤ x := c1
        have c2' : x < j := c2
        omega
      rw [e1] at x1
      omega
    · exact Or.inl ⟨e, c3, c1, c2⟩
  · exact Or.inr c
theorem mx_IB (h : mx_T lv kd mn T n cb S V O) (hcb : cb < 0) (hI : mx_I lv kd T n S O fr tu ((i, j) :: l)) (hB : mx_B T S i j) (ho : O i j = cb) : mx_I lv kd T n S O fr tu ((i + 1, j - 1) :: l) := by
  obtain ⟨t1, t2, t3, t40⟩ := hI.1 (i, j) (List.mem_cons_self ..)
  have t2' : j ≤ n := t2
  have t4 : ∀ x f t, i ≤ x → x < j → mx_N lv kd T O x 0 n f t → mx_N lv kd T O x i j f t := t40
  have z := mx_ps h hB.2.2
  refine ⟨fun e he => ?_, fun x hx x1 x2 => ?_⟩
  · rcases List.mem_cons.mp he with c | c
    · subst c
      refine ⟨z, by show j - 1 ≤ n; omega, hB.2.2, fun x f t x1 x2 hN => ?_⟩
      have x1' : i + 1 ≤ x := x1
      have x2' : x < j - 1 := x2
      exact mx_N2 (mx_sB (by omega) (by omega) (by omega)) (t4 x f t (by show i ≤ x; omega) (by show x < j; omega) hN)
    · exact hI.1 e (List.mem_cons_of_mem _ c)
  · rcases hI.2 x hx x1 x2 with ⟨e, he, c1, c2⟩ | c
    · rcases List.mem_cons.mp he with c3 | c3
      · subst c3
        have c1' : i ≤ x := c1
        have c2' : x < j := c2
        have n1 : x ≠ i := by
          intro e
          rw [e] at x2
          have := hB.1
          omega
        have n2 : x ≠ j - 1 := by
          intro e
          rw [e] at x2
          have := hB.2.1
          omega
        exact Or.inl ⟨(i + 1, j - 1), List.mem_cons_self .., by show i + 1 ≤ x; omega, by show x < j - 1; omega⟩
      · exact Or.inl ⟨e, List.mem_cons_of_mem _ c3, c1, c2⟩
    · exact Or.inr c
theorem mx_IF {r : Nat} {L : List (Nat × Nat)} (hI : mx_I lv kd T n S O fr tu ((i, j) :: l)) (hF : mx_F lv kd T S i r j) (ho : O i j = (r : Int))
    (hL : ∀ e, e ∈ L → e ∈ l ∨ (e = (i, r) ∧ i < r) ∨ (e = (r + 1, j) ∧ r + 1 < j)) (hl : ∀ e, e ∈ l → e ∈ L) (hl1 : i < r → (i, r) ∈ L) (hl2 : r + 1 < j → (r + 1, j) ∈ L) :
    mx_I lv kd T n S O (upd fr r (nI i)) (upd tu r (nI j)) L := by
  obtain ⟨t1, t2, t3, t40⟩ := hI.1 (i, j) (List.mem_cons_self ..)
  have t2' : j ≤ n := t2
  have t4 : ∀ x f t, i ≤ x → x < j → mx_N lv kd T O x 0 n f t → mx_N lv kd T O x i j f t := t40
  obtain ⟨p1, p2, p3, p4, q1, q2⟩ := hF
  have g1 := mx_n1g kd (lv (T r))
  have g2 := mx_n2g kd (lv (T r))
  refine ⟨fun e he => ?_, fun x hx x1 x2 => ?_⟩
  · rcases hL e he with c | ⟨c, d⟩ | ⟨c, d⟩
    · exact hI.1 e (List.mem_cons_of_mem _ c)
    · subst c
      refine ⟨d, by show r ≤ n; omega, by show 0 ≤ S i r; omega, fun x f t x1 x2 hN => ?_⟩
      have x1' : i ≤ x := x1
      have x2' : x < r := x2
      exact mx_N2 (mx_sL ho x2') (t4 x f t x1' (by show x < j; omega) hN)
    · subst c
      refine ⟨d, t2', by show 0 ≤ S (r + 1) j; omega, fun x f t x1 x2 hN => ?_⟩
      have x1' : r + 1 ≤ x := x1
      have x2' : x < j := x2
      exact mx_N2 (mx_sR ho (by omega)) (t4 x f t (by show i ≤ x; omega) x2' hN)
  · by_cases e : x = r
    · subst e
      refine Or.inr (fun f t hN => ?_)
      obtain ⟨n1, n2⟩ := mx_N3 (mx_sE ho) (t4 x f t p1 p2 hN)
      rw [n1, n2]
      exact ⟨pk_us, pk_us⟩
    · rcases hI.2 x hx x1 x2 with ⟨e', he, c1, c2⟩ | c
      · rcases List.mem_cons.mp he with c3 | c3
        · subst c3
          have c1' : i ≤ x := c1
          have c2' : x < j := c2
          by_cases lt : x < r
          · exact Or.inl ⟨(i, r), hl1 (by omega), c1', lt⟩
          · exact Or.inl ⟨(r + 1, j), hl2 (by omega), by show r + 1 ≤ x; omega, c2'⟩
        · exact Or.inl ⟨e', hl e' c3, c1, c2⟩
      · refine Or.inr (fun f t hN => ?_)
        rw [pk_un e, pk_un e]
        exact c f t hN
end
/-! the flat tables -/
def mx_S (a : Nat → Int32) (i j : Nat) : Int := if i < j then (a (17 * i + j)).toInt else -1
def mx_V (a : Nat → Int32) (i j : Nat) : Int32 := a (17 * i + j)
def mx_O (a : Nat → Int32) (i j : Nat) : Int := (a (17 * i + j)).toInt
theorem mx_S1 {a : Nat → Int32} {i j : Nat} (h : i < j) : mx_S a i j = (a (17 * i + j)).toInt := if_pos h
theorem mx_S0 {a : Nat → Int32} {i j : Nat} (h : j ≤ i) : mx_S a i j = -1 := if_neg (by omega)
/-- done: all spans narrower than w, and those of width w that begin ahead of i -/
def mx_P (lv kd : Nat → Nat) (mn : Nat → Int32) (T : Nat → Nat) (m : Nat) (cb : Int) (s v o : Nat → Int32) (w i : Nat) : Prop :=
  ∀ a b, a < b → b ≤ m → (b - a < w ∨ (b - a = w ∧ a < i)) → mx_C lv kd mn T cb (mx_S s) (mx_V v) (mx_O o) a b
def mx_U (a a' : Nat → Int32) (i j : Nat) : Prop := ∀ c d, d ≤ 16 → ¬ (c = i ∧ d = j) → a' (17 * c + d) = a (17 * c + d)
theorem mx_Us {a a' : Nat → Int32} {i j c d : Nat} (h : mx_U a a' i j) (hd : d ≤ 16) (hn : ¬ (c = i ∧ d = j)) : mx_S a' c d = mx_S a c d := by
  unfold mx_S
  rw [h c d hd hn]
section
variable {lv kd : Nat → Nat} {mn : Nat → Int32} {T : Nat → Nat} {m : Nat} {cb : Int} {s v o s' v' o' : Nat → Int32}
theorem mx_P1 (hm : m ≤ 16) {w i : Nat} (hw : 0 < w) (hj : i + w ≤ m) (hP : mx_P lv kd mn T m cb s v o w i) (us : mx_U s s' i (i + w)) (uv : mx_U v v' i (i + w)) (uo : mx_U o o' i (i + w))
    (hC : mx_C lv kd mn T cb (mx_S s') (mx_V v') (mx_O o') i (i + w)) : mx_P lv kd mn T m cb s' v' o' w (i + 1) := by
  intro a b hab hb hd
  by_cases e : a = i ∧ b = i + w
  · rw [e.1, e.2]
    exact hC
  · have old := hP a b hab hb (by omega)
    refine mx_Cc (fun c d h1 h2 => mx_Us us (by omega) (by omega)) (fun c d h1 h2 _ => uv c d (by omega) (by omega)) ?_ hab (fun c d h => mx_S0 h) old
    show (o' (17 * a + b)).toInt = (o (17 * a + b)).toInt
    rw [uo a b (by omega) (by omega)]
theorem mx_P2 {w i : Nat} (hi : m < i + w) (hP : mx_P lv kd mn T m cb s v o w i) : mx_P lv kd mn T m cb s v o (w + 1) 0 :=
  fun a b hab hb hd => hP a b hab hb (by omega)
theorem mx_P3 (hP : mx_P lv kd mn T m cb s v o (m + 1) 0) : mx_T lv kd mn T m cb (mx_S s) (mx_V v) (mx_O o) :=
  ⟨fun _ _ h => mx_S0 h, fun a b hab hb => hP a b hab hb (by omega)⟩
theorem mx_P0 : mx_P lv kd mn T m cb s v o 1 0 := by
  intro a b hab hb hd
  omega
/-- the cell that is being made does not tell on what it is made of -/
theorem mx_UF {i r j : Nat} (hj : j ≤ 16) (us : mx_U s s' i j) : mx_F lv kd T (mx_S s') i r j ↔ mx_F lv kd T (mx_S s) i r j := by
  constructor
  · intro hF
    have p1 := hF.1
    have p2 := hF.2.1
    exact mx_Ft hF p1 p2 rfl (fun z => z) (fun z => z) (fun _ z => by rw [← mx_Us us (by omega) (by omega)]; exact z) (fun _ z => by rw [← mx_Us us (by omega) (by omega)]; exact z)
  · intro hF
    have p1 := hF.1
    have p2 := hF.2.1
    exact mx_Ft hF p1 p2 rfl (fun z => z) (fun z => z) (fun _ z => by rw [mx_Us us (by omega) (by omega)]; exact z) (fun _ z => by rw [mx_Us us (by omega) (by omega)]; exact z)
theorem mx_UB {i j : Nat} (hj : j ≤ 16) (us : mx_U s s' i j) : mx_B T (mx_S s') i j ↔ mx_B T (mx_S s) i j := by
  unfold mx_B
  rw [mx_Us us (by omega) (by omega)]
end
end
section
/-! numbers and settings -/
theorem my_17 (i j : Nat) : (17 : Int32) * nI i + nI j = nI (17 * i + j) := by
  show nI 17 * nI i + nI j = _
  rw [pk_mul, nI_add]
theorem my_17b (r j : Nat) : (17 : Int32) * nI r + 17 + nI j = nI (17 * (r + 1) + j) := by
  show nI 17 * nI r + nI 17 + nI j = _
  rw [pk_mul, nI_add, nI_add]
  exact congrArg nI (by omega)
theorem my_m1 : (-1 : Int32).toInt = -1 := by decide
theorem my_0 : (0 : Int32).toInt = 0 := by decide
theorem my_lt {a : Int32} {e : Int} {k : Nat} (ha : a.toInt = e) (hk : k < 2 ^ 31) : a < nI k ↔ e < (k : Int) := by
  rw [Int32.lt_iff_toInt_lt, ha, nI_toInt hk]
theorem my_lt1 {a : Int32} {e : Int} {k : Nat} (ha : a.toInt = e) (hk : k + 1 < 2 ^ 31) : a < nI k + 1 ↔ e < (k : Int) + 1 := by
  rw [nI_1, Int32.lt_iff_toInt_lt, ha, nI_toInt hk]
  omega
theorem my_lt0 {a : Int32} {e : Int} (ha : a.toInt = e) : a < 0 ↔ e < 0 := by
  rw [Int32.lt_iff_toInt_lt, ha, my_0]
theorem my_le0 {a : Int32} {e : Int} (ha : a.toInt = e) : 0 ≤ a ↔ 0 ≤ e := by
  rw [Int32.le_iff_toInt_le, ha, my_0]
theorem my_em1 {a : Int32} {e : Int} (ha : a.toInt = e) : a = -1 ↔ e = -1 := by
  rw [← Int32.toInt_inj, ha, my_m1]
theorem my_em2 {a : Int32} {e : Int} (ha : a.toInt = e) : a = -2 ↔ e = -2 := by
  rw [← Int32.toInt_inj, ha, show (-2 : Int32).toInt = -2 from by decide]
theorem my_nI {a : Int32} {k : Nat} (ha : a.toInt = (k : Int)) (hk : k < 2 ^ 31) : a = nI k := by
  rw [← Int32.toInt_inj, ha, nI_toInt hk]
theorem my_if {c d A B : Prop} (e : c ↔ d) (f : d → A) (g : ¬ d → B) : (c → A) ∧ (¬ c → B) :=
  ⟨fun z => f (e.mp z), fun z => g (fun y => z (e.mpr y))⟩
def mx_G (lv kd : Nat → Nat) (mn : Nat → Int32) (K L M : Nat → Int32) : Prop :=
  (∀ k, kd k < 5) ∧ (∀ t, lv t < 5) ∧ (∀ k, k < 5 → K k = nI (kd k)) ∧ (∀ t, 10 ≤ t → t < 18 → L (t - 10) = nI (lv t)) ∧ (∀ t, 10 ≤ t → t < 18 → M (t - 10) = mn t)
def mx_A (R : Nat → Int32) (T : Nat → Nat) (m : Nat) : Prop := (∀ j, j < m → R j = nI (T j)) ∧ ∀ j, T j < 20
theorem mx_n1k {kd : Nat → Nat} {k : Nat} (h1 : kd k ≠ 1) (h2 : kd k ≠ 2) : mx_n1 kd k = (k : Int) := if_neg (by omega)
theorem mx_n1s {kd : Nat → Nat} {k : Nat} (h : kd k = 1 ∨ kd k = 2) : mx_n1 kd k = (k : Int) + 1 := if_pos h
theorem mx_n2k {kd : Nat → Nat} {k : Nat} (h1 : kd k ≠ 0) (h2 : kd k ≠ 2) : mx_n2 kd k = (k : Int) := if_neg (by omega)
theorem mx_n2s {kd : Nat → Nat} {k : Nat} (h : kd k = 0 ∨ kd k = 2) : mx_n2 kd k = (k : Int) + 1 := if_pos h
theorem mx_Uu {s : Nat → Int32} {i j : Nat} {x : Int32} (hj : j ≤ 16) : mx_U s (upd s (17 * i + j) x) i j :=
  fun c d hd hn => pk_un (by omega)
theorem mx_Ut {a b c : Nat → Int32} {i j : Nat} (h1 : mx_U a b i j) (h2 : mx_U b c i j) : mx_U a c i j :=
  fun x y hy hn => (h2 x y hy hn).trans (h1 x y hy hn)
theorem mx_Ur {a : Nat → Int32} {i j : Nat} : mx_U a a i j := fun _ _ _ _ => rfl
section
variable {lv kd : Nat → Nat} {mn : Nat → Int32} {T : Nat → Nat} {cb : Int} {s v s' v' o' : Nat → Int32} {i j : Nat}
theorem mx_mN (h1 : j = i + 1) (h2 : T i < 10) (e1 : s' (17 * i + j) = 5) (e2 : o' (17 * i + j) = -1) (e3 : v' (17 * i + j) = nI (T i)) : mx_C lv kd mn T cb (mx_S s') (mx_V v') (mx_O o') i j := by
  refine Or.inl ⟨h1, h2, ?_, ?_, e3⟩
  · rw [mx_S1 (by omega), e1]
    decide
  · show (o' (17 * i + j)).toInt = -1
    rw [e2]
    decide
theorem mx_mB (hj : j ≤ 16) (us : mx_U s s' i j) (uv : mx_U v v' i j) (hB : mx_B T (mx_S s) i j) (e1 : s' (17 * i + j) = 5) (e2 : (o' (17 * i + j)).toInt = cb) (e3 : v' (17 * i + j) = v (17 * (i + 1) + (j - 1))) :
    mx_C lv kd mn T cb (mx_S s') (mx_V v') (mx_O o') i j := by
  have z : i + 1 < j - 1 := by
    by_cases c : i + 1 < j - 1
    · exact c
    · have b3 := hB.2.2
      rw [mx_S0 (by omega)] at b3
      omega
  refine Or.inr (Or.inl ⟨(mx_UB hj us).mpr hB, ?_, e2, ?_⟩)
  · rw [mx_S1 (by omega), e1]
    decide
  · show v' (17 * i + j) = v' (17 * (i + 1) + (j - 1))
    rw [e3, uv (i + 1) (j - 1) (by omega) (by omega)]
theorem mx_mF {r : Nat} (hj : j ≤ 16) (us : mx_U s s' i j) (uv : mx_U v v' i j) (hF : mx_F lv kd T (mx_S s) i r j) (hl : lv (T r) < 5) (e1 : s' (17 * i + j) = nI (lv (T r))) (e2 : o' (17 * i + j) = nI r)
    (e3 : v' (17 * i + j) = mx_jv lv kd mn T (mx_V v) i r j) : mx_C lv kd mn T cb (mx_S s') (mx_V v') (mx_O o') i j := by
  have p1 := hF.1
  have p2 := hF.2.1
  refine Or.inr (Or.inr (Or.inl ⟨r, (mx_UF hj us).mpr hF, ?_, ?_, ?_⟩))
  · rw [mx_S1 (by omega), e1, nI_toInt (by omega)]
  · show (o' (17 * i + j)).toInt = _
    rw [e2, nI_toInt (by omega)]
  · show v' (17 * i + j) = _
    rw [e3]
    exact (mx_jvt rfl (fun _ => uv i r (by omega) (by omega)) (fun _ => uv (r + 1) j (by omega) (by omega))).symm
theorem mx_m0 (hj : j ≤ 16) (hij : i < j) (us : mx_U s s' i j) (e1 : s' (17 * i + j) = -1) (h1 : ¬ (j = i + 1 ∧ T i < 10)) (h2 : ¬ mx_B T (mx_S s) i j) (h3 : ∀ r, ¬ mx_F lv kd T (mx_S s) i r j) :
    mx_C lv kd mn T cb (mx_S s') (mx_V v') (mx_O o') i j := by
  refine Or.inr (Or.inr (Or.inr ⟨?_, h1, fun z => h2 ((mx_UB hj us).mp z), fun r z => h3 r ((mx_UF hj us).mp z)⟩))
  rw [mx_S1 hij, e1]
  decide
end
end
section
/-! the reference reads -/
section
variable {z m : Int32} {K L M X R s v o fr tu kf kt pn : Nat → Int32}
theorem my_str {post : Int32 → Prop} {x y : Int32} (i j : Nat) (hx : x = nI i) (hy : y = nI j) (hi : i < 2 ^ 31) (hj : j ≤ 16) (h : ∀ r : Int32, r.toInt = mx_S s i j → post r) : wpY_strongest post (z, m, K, L, M, X, R, s, v, o, fr, tu, kf, kt, pn) x y := by
  subst hx hy
  refine pk_le j i (fun c => h _ (by rw [mx_S0 c]; decide)) (fun c => ?_)
  have e := my_17 i j
  refine ⟨by rw [e]; exact vp_in_nI (by omega) (by omega), h _ ?_⟩
  rw [e, nI_clamp (by omega), mx_S1 c]
theorem my_set {post : SY → Prop} {x y a b c : Int32} (i j : Nat) (hx : x = nI i) (hy : y = nI j) (hi : i < 16) (hj : j ≤ 16)
    (h : post (z, m, K, L, M, X, R, (upd s (17 * i + j) a), (upd v (17 * i + j) b), (upd o (17 * i + j) c), fr, tu, kf, kt, pn)) : wpY_set post (z, m, K, L, M, X, R, s, v, o, fr, tu, kf, kt, pn) x y a b c := by
  subst hx hy
  have e := my_17 i j
  have hin : vp_in ((17 : Int32) * nI i + nI j) 289 := by rw [e]; exact vp_in_nI (by omega) (by omega)
  have hc : ((17 : Int32) * nI i + nI j).toNatClampNeg = 17 * i + j := by rw [e, nI_clamp (by omega)]
  exact ⟨hin, nm_r (congrArg (fun k => upd s k a) hc) ⟨hin, nm_r (congrArg (fun k => upd v k b) hc) ⟨hin, nm_r (congrArg (fun k => upd o k c) hc) h⟩⟩⟩
theorem my_btw {post : Int32 → Prop} {a b c : Int32} (h : post (mx_two a b c)) : wpY_between post (z, m, K, L, M, X, R, s, v, o, fr, tu, kf, kt, pn) a b c := by
  unfold mx_two at h
  by_cases c0 : a = 0
  · rw [if_pos c0] at h
    exact br_t c0 h
  · rw [if_neg c0] at h
    refine br_f c0 ?_
    by_cases c1 : a = 1
    · rw [if_pos c1] at h
      exact br_t c1 h
    · rw [if_neg c1] at h
      refine br_f c1 ?_
      by_cases c2 : a = 2
      · rw [if_pos c2] at h
        exact br_t c2 h
      · rw [if_neg c2] at h
        exact br_f c2 h
theorem my_aln {post : Int32 → Prop} {a b : Int32} (h : post (mx_one a b)) : wpY_alone post (z, m, K, L, M, X, R, s, v, o, fr, tu, kf, kt, pn) a b := by
  unfold mx_one at h
  by_cases c0 : a = 0
  · rw [if_pos c0] at h
    exact br_t c0 h
  · rw [if_neg c0] at h
    refine br_f c0 ?_
    by_cases c1 : a = 1
    · rw [if_pos c1] at h
      exact br_t c1 h
    · rw [if_neg c1] at h
      refine br_f c1 ?_
      by_cases c2 : a = 2
      · rw [if_pos c2] at h
        exact br_t c2 h
      · rw [if_neg c2] at h
        exact br_f c2 h
end
section
variable {z m : Int32} {K L M X R s v o fr tu kf kt pn : Nat → Int32} {lv kd : Nat → Nat} {mn : Nat → Int32} {T : Nat → Nat}
theorem my_try (hG : mx_G lv kd mn K L M) {post : Int32 → SY → Prop} {i r j k : Nat} (hj : j ≤ 16) (hi : i ≤ r) (hr : r < j) (hR : R r = nI (T r)) (h10 : 10 ≤ T r) (h18 : T r < 18) (hk : lv (T r) = k)
    (H1 : mx_F lv kd T (mx_S s) i r j → post 1 (z, m, K, L, M, X, R, (upd s (17 * i + j) (nI k)), (upd v (17 * i + j) (mx_jv lv kd mn T (mx_V v) i r j)), (upd o (17 * i + j) (nI r)), fr, tu, kf, kt, pn))
    (H0 : ¬ mx_F lv kd T (mx_S s) i r j → post 0 (z, m, K, L, M, X, R, s, v, o, fr, tu, kf, kt, pn)) : wpY_tryOperator post (z, m, K, L, M, X, R, s, v, o, fr, tu, kf, kt, pn) (nI i) (nI j) (nI r) (nI k) := by
  obtain ⟨g1, g2, g3, g4, g5⟩ := hG
  subst hk
  have k5 := g2 (T r)
  have d5 := g1 (lv (T r))
  have n1 := mx_n1g kd (lv (T r))
  have n2 := mx_n2g kd (lv (T r))
  have eK : K (nI (lv (T r))).toNatClampNeg = nI (kd (lv (T r))) := by rw [nI_clamp (by omega)]; exact g3 _ k5
  have eR : R (nI r).toNatClampNeg - 10 = nI (T r - 10) := by
    rw [nI_clamp (by omega), hR]
    exact pk_sub (b := 10) h10
  have G1 : mx_F lv kd T (mx_S s) i r j → wY_tryOperator_136 post (nI i) (nI j) (nI r) (nI (lv (T r))) (nI (T r - 10)) (nI (kd (lv (T r)))) 1 z m K L M X R s v o fr tu kf kt pn := by
    intro hF
    have h1 := H1 hF
    have x8 : vp_in (nI (T r - 10)) 8 := vp_in_nI (by omega) (by omega)
    have eM : M (nI (T r - 10)).toNatClampNeg = mn (T r) := by rw [nI_clamp (by omega)]; exact g5 _ h10 h18
    have eB := my_17b r j
    have eA := my_17 i r
    have iB : vp_in ((17 : Int32) * nI r + 17 + nI j) 289 := by rw [eB]; exact vp_in_nI (by omega) (by omega)
    have iA : vp_in ((17 : Int32) * nI i + nI r) 289 := by rw [eA]; exact vp_in_nI (by omega) (by omega)
    have vB : v ((17 : Int32) * nI r + 17 + nI j).toNatClampNeg = mx_V v (r + 1) j := by rw [eB, nI_clamp (by omega)]; rfl
    have vA : v ((17 : Int32) * nI i + nI r).toNatClampNeg = mx_V v i r := by rw [eA, nI_clamp (by omega)]; rfl
    refine br_f (by decide) ?_
    by_cases k3 : kd (lv (T r)) = 3
    · have ej : mx_jv lv kd mn T (mx_V v) i r j = mx_one (mn (T r)) (mx_V v (r + 1) j) := if_pos k3
      rw [ej] at h1
      rw [k3]
      refine br_t rfl ⟨iB, br_f (by decide) ⟨x8, my_aln ?_⟩⟩
      rw [eM, vB]
      exact my_set i j rfl rfl (by omega) hj h1
    · by_cases k4 : kd (lv (T r)) = 4
      · have ej : mx_jv lv kd mn T (mx_V v) i r j = mx_one (mn (T r)) (mx_V v i r) := (if_neg k3).trans (if_pos k4)
        rw [ej] at h1
        rw [k4]
        refine br_f (by decide) ⟨iA, br_f (by decide) ⟨x8, my_aln ?_⟩⟩
        rw [eM, vA]
        exact my_set i j rfl rfl (by omega) hj h1
      · have ej : mx_jv lv kd mn T (mx_V v) i r j = mx_two (mn (T r)) (mx_V v i r) (mx_V v (r + 1) j) := (if_neg k3).trans (if_neg k4)
        rw [ej] at h1
        have n3 : ¬ nI (kd (lv (T r))) = 3 := fun e => k3 ((nI_eq (b := 3) (by omega) (by decide)).mp e)
        refine br_f n3 ⟨iA, br_t (nI_le (b := 2) (by omega) (by decide)) ⟨x8, iB, my_btw ?_⟩⟩
        rw [eM, vA, vB]
        exact my_set i j rfl rfl (by omega) hj h1
  have G0 : ¬ mx_F lv kd T (mx_S s) i r j → wY_tryOperator_136 post (nI i) (nI j) (nI r) (nI (lv (T r))) (nI (T r - 10)) (nI (kd (lv (T r)))) 0 z m K L M X R s v o fr tu kf kt pn := fun h => br_t rfl (H0 h)
  refine ⟨vp_in_nI (by omega) (by omega), nm_r eR (my_str i r rfl rfl (by omega) (by omega) (fun a ha => my_str (r + 1) j (nI_1 r) rfl (by omega) hj (fun b hb => ⟨vp_in_nI (by omega) (by omega), nm_r eK ?_⟩)))⟩
  by_cases k3 : kd (lv (T r)) = 3
  · have m2 := mx_n2k (kd := kd) (k := lv (T r)) (by omega) (by omega)
    refine br_t (congrArg nI k3) (pk_eq r i (fun e => my_if (my_lt hb (by omega)) (fun c => G0 ?_) (fun c => G1 ?_)) (fun e => G0 ?_))
    · intro hF
      have q := hF.2.2.2.2.2
      omega
    · exact ⟨hi, hr, h10, h18, Or.inl ⟨k3, e⟩, Or.inr ⟨by omega, by omega⟩⟩
    · intro hF
      have q := hF.2.2.2.2.1
      omega
  · have n3 : ¬ nI (kd (lv (T r))) = 3 := fun e => k3 ((nI_eq (b := 3) (by omega) (by decide)).mp e)
    refine br_f n3 ?_
    by_cases k4 : kd (lv (T r)) = 4
    · have m1 := mx_n1k (kd := kd) (k := lv (T r)) (by omega) (by omega)
      refine br_t (congrArg nI k4) (pk_eq r (j - 1) (fun e => my_if (my_lt ha (by omega)) (fun c => G0 ?_) (fun c => G1 ?_)) (fun e => G0 ?_) rfl (pk_sub (b := 1) (by omega)))
      · intro hF
        have q := hF.2.2.2.2.1
        omega
      · exact ⟨hi, hr, h10, h18, Or.inr ⟨k3, by omega⟩, Or.inl ⟨k4, by omega⟩⟩
      · intro hF
        have q := hF.2.2.2.2.2
        omega
    · have n4 : ¬ nI (kd (lv (T r))) = 4 := fun e => k4 ((nI_eq (b := 4) (by omega) (by decide)).mp e)
      refine br_f n4 ?_
      have bad1 : mx_S s i r < mx_n1 kd (lv (T r)) → ¬ mx_F lv kd T (mx_S s) i r j := by
        intro c hF
        have q := hF.2.2.2.2.1
        omega
      have bad2 : mx_S s (r + 1) j < mx_n2 kd (lv (T r)) → ¬ mx_F lv kd T (mx_S s) i r j := by
        intro c hF
        have q := hF.2.2.2.2.2
        omega
      have good : ¬ mx_S s i r < mx_n1 kd (lv (T r)) → ¬ mx_S s (r + 1) j < mx_n2 kd (lv (T r)) → mx_F lv kd T (mx_S s) i r j :=
        fun c d => ⟨hi, hr, h10, h18, Or.inr ⟨k3, by omega⟩, Or.inr ⟨k4, by omega⟩⟩
      by_cases k0 : kd (lv (T r)) = 0
      · have m1 := mx_n1k (kd := kd) (k := lv (T r)) (by omega) (by omega)
        have m2 := mx_n2s (kd := kd) (k := lv (T r)) (by omega)
        have q1 : ¬ nI (kd (lv (T r))) = 1 := fun e => absurd ((nI_eq (b := 1) (by omega) (by decide)).mp e) (by omega)
        exact br_t (congrArg nI k0) (my_if (my_lt ha (by omega)) (fun c => G0 (bad1 (by omega))) (fun c => br_f q1 (my_if (my_lt1 hb (by omega)) (fun d => G0 (bad2 (by omega))) (fun d => G1 (good (by omega) (by omega))))))
      · have q0 : ¬ nI (kd (lv (T r))) = 0 := fun e => k0 ((nI_eq (b := 0) (by omega) (by decide)).mp e)
        have m1 := mx_n1s (kd := kd) (k := lv (T r)) (by omega)
        refine br_f q0 (my_if (my_lt1 ha (by omega)) (fun c => G0 (bad1 (by omega))) (fun c => ?_))
        by_cases k1 : kd (lv (T r)) = 1
        · have m2 := mx_n2k (kd := kd) (k := lv (T r)) (by omega) (by omega)
          exact br_t (congrArg nI k1) (my_if (my_lt hb (by omega)) (fun d => G0 (bad2 (by omega))) (fun d => G1 (good (by omega) (by omega))))
        · have q1 : ¬ nI (kd (lv (T r))) = 1 := fun e => k1 ((nI_eq (b := 1) (by omega) (by decide)).mp e)
          have m2 := mx_n2s (kd := kd) (k := lv (T r)) (by omega)
          exact br_f q1 (my_if (my_lt1 hb (by omega)) (fun d => G0 (bad2 (by omega))) (fun d => G1 (good (by omega) (by omega))))
theorem my_lv3 (hG : mx_G lv kd mn K L M) {post : Int32 → SY → Prop} {i j k m0 : Nat} (hm : j ≤ m0) (h16 : m0 ≤ 16) (hA : mx_A R T m0) (hk : k < 5)
    (H1 : ∀ r, mx_F lv kd T (mx_S s) i r j → lv (T r) = k → post 1 (z, m, K, L, M, X, R, (upd s (17 * i + j) (nI (lv (T r)))), (upd v (17 * i + j) (mx_jv lv kd mn T (mx_V v) i r j)), (upd o (17 * i + j) (nI r)), fr, tu, kf, kt, pn))
    (H0 : (∀ r, mx_F lv kd T (mx_S s) i r j → lv (T r) ≠ k) → post 0 (z, m, K, L, M, X, R, s, v, o, fr, tu, kf, kt, pn)) :
    ∀ d r, r + d = j → i ≤ r → (∀ x, x < r → mx_F lv kd T (mx_S s) i x j → lv (T x) ≠ k) → wY_tryLevel_3 post (nI i) (nI j) (nI k) (d + 1) (nI r) z m K L M X R s v o fr tu kf kt pn := by
  have hG' := hG
  obtain ⟨g1, g2, g3, g4, g5⟩ := hG
  intro d
  induction d with
  | zero =>
    intro r hr hi hb
    refine br_t (nI_le (by omega) (by omega)) (H0 (fun x hF => hb x ?_ hF))
    have := hF.2.1
    omega
  | succ d ih =>
    intro r hr hi hb
    have hR : R (nI r).toNatClampNeg = nI (T r) := by rw [nI_clamp (by omega)]; exact hA.1 r (by omega)
    have hT := hA.2 r
    have ir : vp_in (nI r) 16 := vp_in_nI (by omega) (by omega)
    have nx : (mx_F lv kd T (mx_S s) i r j → lv (T r) ≠ k) → wY_tryLevel_3 post (nI i) (nI j) (nI k) (d + 1) (nI (r + 1)) z m K L M X R s v o fr tu kf kt pn := by
      intro hn
      refine ih (r + 1) (by omega) (by omega) (fun x hx hF => ?_)
      by_cases e : x = r
      · subst e
        exact hn hF
      · exact hb x (by omega) hF
    refine br_f (nI_ge (by omega) (by omega)) ⟨ir, my_if (d := T r ≤ 9) (by rw [hR]; exact nI_leI (b := 9) (by omega) (by decide)) (fun c => nm_r (nI_1 r) (nx (fun hF => ?_))) (fun c => ⟨ir, my_if (d := 18 ≤ T r) (by rw [hR]; exact nI_leI (a := 18) (by decide) (by omega)) (fun c2 => nm_r (nI_1 r) (nx (fun hF => ?_))) (fun c2 => ?_)⟩)⟩
    · have := hF.2.2.1
      omega
    · have := hF.2.2.2.1
      omega
    · have e10 : R (nI r).toNatClampNeg - 10 = nI (T r - 10) := by
        rw [hR]
        exact pk_sub (b := 10) (by omega)
      have eL : L (R (nI r).toNatClampNeg - 10).toNatClampNeg = nI (lv (T r)) := by
        rw [e10, nI_clamp (by omega)]
        exact g4 _ (by omega) (by omega)
      have l5 := g2 (T r)
      refine ⟨ir, by rw [e10]; exact vp_in_nI (by omega) (by omega), my_if (d := lv (T r) = k) (by rw [eL]; exact nI_eq (by omega) (by omega)) (fun c3 => ?_) (fun c3 => nm_r (nI_1 r) (nx (fun _ => c3)))⟩
      refine my_try hG' (by omega) hi (by omega) (hA.1 r (by omega)) (by omega) (by omega) c3 (fun hF => ?_) (fun hF => ?_)
      · refine br_f (by decide) ?_
        have h1 := H1 r hF c3
        rw [c3] at h1
        exact h1
      · exact br_t rfl (nm_r (nI_1 r) (nx (fun z => absurd z hF)))
theorem my_lv (hG : mx_G lv kd mn K L M) {post : Int32 → SY → Prop} {i j k m0 : Nat} (hij : i < j) (hm : j ≤ m0) (h16 : m0 ≤ 16) (hA : mx_A R T m0) (hk : k < 5)
    (H1 : ∀ r, mx_F lv kd T (mx_S s) i r j → lv (T r) = k → post 1 (z, m, K, L, M, X, R, (upd s (17 * i + j) (nI (lv (T r)))), (upd v (17 * i + j) (mx_jv lv kd mn T (mx_V v) i r j)), (upd o (17 * i + j) (nI r)), fr, tu, kf, kt, pn))
    (H0 : (∀ r, mx_F lv kd T (mx_S s) i r j → lv (T r) ≠ k) → post 0 (z, m, K, L, M, X, R, s, v, o, fr, tu, kf, kt, pn)) : wpY_tryLevel post (z, m, K, L, M, X, R, s, v, o, fr, tu, kf, kt, pn) (nI i) (nI j) (nI k) :=
  ⟨j - i + 1, my_lv3 hG hm h16 hA hk H1 H0 (j - i) i (by omega) (Nat.le_refl _) (fun x hx hF => absurd hF.1 (by omega))⟩
theorem my_rs (hG : mx_G lv kd mn K L M) {post : SY → Prop} {i j m0 : Nat} (hij : i < j) (hm : j ≤ m0) (h16 : m0 ≤ 16) (hA : mx_A R T m0)
    (H1 : ∀ r, mx_F lv kd T (mx_S s) i r j → post (z, m, K, L, M, X, R, (upd s (17 * i + j) (nI (lv (T r)))), (upd v (17 * i + j) (mx_jv lv kd mn T (mx_V v) i r j)), (upd o (17 * i + j) (nI r)), fr, tu, kf, kt, pn))
    (H0 : (∀ r, ¬ mx_F lv kd T (mx_S s) i r j) → post (z, m, K, L, M, X, R, s, v, o, fr, tu, kf, kt, pn)) :
    ∀ k, k < 5 → (∀ r, mx_F lv kd T (mx_S s) i r j → lv (T r) ≤ k) → wY_readStretch_108 post (nI i) (nI j) (k + 2) (nI k) z m K L M X R s v o fr tu kf kt pn := by
  intro k
  induction k with
  | zero =>
    intro _ hb
    refine br_f (nI_pos (by omega)) (my_lv hG hij hm h16 hA (by omega) (fun r hF e => br_f (by decide) (H1 r hF)) (fun hn => br_t rfl (nm_r (e' := -1) (by decide) (br_t (by decide) (H0 (fun r hF => ?_))))))
    have h1 := hb r hF
    have h2 := hn r hF
    omega
  | succ k ih =>
    intro h5 hb
    refine br_f (nI_pos (by omega)) (my_lv hG hij hm h16 hA h5 (fun r hF e => br_f (by decide) (H1 r hF)) (fun hn => br_t rfl (nm_r (pk_m1 k) (ih (by omega) (fun r hF => ?_)))))
    have h1 := hb r hF
    have h2 := hn r hF
    omega
theorem my_rst (hG : mx_G lv kd mn K L M) {post : SY → Prop} {y : Int32} {i j m0 : Nat} (hy : y = nI j) (hij : i < j) (hm : j ≤ m0) (h16 : m0 ≤ 16) (hA : mx_A R T m0)
    (H : ∀ s' v' o', mx_U s s' i j → mx_U v v' i j → mx_U o o' i j → mx_C lv kd mn T (-2) (mx_S s') (mx_V v') (mx_O o') i j → post (z, m, K, L, M, X, R, s', v', o', fr, tu, kf, kt, pn)) : wpY_readStretch post (z, m, K, L, M, X, R, s, v, o, fr, tu, kf, kt, pn) (nI i) y := by
  subst hy
  have hG' := hG
  obtain ⟨g1, g2, g3, g4, g5⟩ := hG
  have j16 : j ≤ 16 := by omega
  have us : ∀ a : Int32, mx_U s (upd (upd s (17 * i + j) (-1)) (17 * i + j) a) i j := fun a => mx_Ut (mx_Uu j16) (mx_Uu j16)
  have uv : ∀ a : Int32, mx_U v (upd (upd v (17 * i + j) 0) (17 * i + j) a) i j := fun a => mx_Ut (mx_Uu j16) (mx_Uu j16)
  have uo : ∀ a : Int32, mx_U o (upd (upd o (17 * i + j) (-4)) (17 * i + j) a) i j := fun a => mx_Ut (mx_Uu j16) (mx_Uu j16)
  have u1 : mx_U s (upd s (17 * i + j) (-1)) i j := mx_Uu j16
  have v1 : mx_U v (upd v (17 * i + j) 0) i j := mx_Uu j16
  have o1 : mx_U o (upd o (17 * i + j) (-4)) i j := mx_Uu j16
  have hRi : R (nI i).toNatClampNeg = nI (T i) := by rw [nI_clamp (by omega)]; exact hA.1 i (by omega)
  have eJ : nI j - 1 = nI (j - 1) := pk_sub (b := 1) (by omega)
  have hRj : R (nI j - 1).toNatClampNeg = nI (T (j - 1)) := by rw [eJ, nI_clamp (by omega)]; exact hA.1 (j - 1) (by omega)
  have ti := hA.2 i
  have tj := hA.2 (j - 1)
  have ii : vp_in (nI i) 16 := vp_in_nI (by omega) (by omega)
  have rest : ¬ (j = i + 1 ∧ T i < 10) → ¬ mx_B T (mx_S s) i j → ∃ n, wY_readStretch_108 post (nI i) (nI j) n 4 z m K L M X R (upd s (17 * i + j) (-1)) (upd v (17 * i + j) 0) (upd o (17 * i + j) (-4)) fr tu kf kt pn := by
    intro c1 c2
    refine ⟨4 + 2, my_rs hG' hij hm h16 hA (fun r hF => ?_) (fun hn => ?_) 4 (by omega) (fun r _ => ?_)⟩
    · have hF' := (mx_UF j16 u1).mp hF
      have p1 := hF.1
      have p2 := hF.2.1
      refine H _ _ _ (us _) (uv _) (uo _) (mx_mF j16 (us _) (uv _) hF' (g2 _) pk_us pk_us ?_)
      rw [pk_us]
      exact mx_jvt rfl (fun _ => v1 i r (by omega) (by omega)) (fun _ => v1 (r + 1) j (by omega) (by omega))
    · exact H _ _ _ u1 v1 o1 (mx_m0 j16 hij u1 pk_us c1 c2 (fun r hF => hn r ((mx_UF j16 u1).mpr hF)))
    · have := g2 (T r)
      omega
  have br : ¬ (j = i + 1 ∧ T i < 10) → wY_readStretch_43 post (nI i) (nI j) z m K L M X R (upd s (17 * i + j) (-1)) (upd v (17 * i + j) 0) (upd o (17 * i + j) (-4)) fr tu kf kt pn := by
    intro c1
    refine ⟨ii, my_if (d := T i = 18) (by rw [hRi]; exact nI_eq (b := 18) (by omega) (by decide)) (fun c2 => ⟨by rw [eJ]; exact vp_in_nI (by omega) (by omega), my_if (d := T (j - 1) = 19) (by rw [hRj]; exact nI_eq (b := 19) (by omega) (by decide)) (fun c3 => ?_) (fun c3 => ?_)⟩) (fun c2 => ?_)⟩
    · refine my_str (i + 1) (j - 1) (nI_1 i) eJ (by omega) (by omega) (fun a ha => my_if (my_lt0 ha) (fun c4 => ?_) (fun c4 => ?_))
      · refine rest c1 (fun hB => ?_)
        have b3 := ((mx_UB j16 u1).mpr hB).2.2
        omega
      · have hB : mx_B T (mx_S s) i j := (mx_UB j16 u1).mp ⟨c2, c3, by omega⟩
        have e3 : ((17 : Int32) * nI i + 17 + nI j) - 1 = nI (17 * (i + 1) + (j - 1)) := by
          rw [my_17b i j]
          refine (pk_sub (b := 1) (by omega)).trans (congrArg nI (by omega))
        refine ⟨by rw [e3]; exact vp_in_nI (by omega) (by omega), my_set i j rfl rfl (by omega) j16 (H _ _ _ (us _) (uv _) (uo _) (mx_mB j16 (us _) (uv _) hB pk_us ?_ ?_))⟩
        · rw [pk_us]
          decide
        · rw [pk_us, e3, nI_clamp (by omega)]
          exact v1 (i + 1) (j - 1) (by omega) (by omega)
    · refine rest c1 (fun hB => c3 hB.2.1)
    · refine rest c1 (fun hB => c2 hB.1)
  unfold wpY_readStretch
  refine my_set i j rfl rfl (by omega) j16 ?_
  refine my_if (d := j = i + 1) (by rw [nI_1]; exact nI_eq (by omega) (by omega)) (fun c => ⟨ii, my_if (d := 10 ≤ T i) (by rw [hRi]; exact nI_leI (a := 10) (by decide) (by omega)) (fun c2 => br (by omega)) (fun c2 => ⟨ii, ?_⟩)⟩) (fun c => br (fun z => c z.1))
  refine my_set i j rfl rfl (by omega) j16 (H _ _ _ (us _) (uv _) (uo _) (mx_mN c (by omega) pk_us pk_us ?_))
  rw [pk_us]
  exact hRi
end
end
section
/-! the reference fills its tables -/
section
variable {z : Int32} {K L M X fr tu kf kt pn : Nat → Int32} {lv kd : Nat → Nat} {mn : Nat → Int32} {T : Nat → Nat} {m0 : Nat}
theorem my_ra12 {R : Nat → Int32} (hG : mx_G lv kd mn K L M) {post : Int32 → SY → Prop} {J : Int32 → Int32 → Int32 → (Nat → Int32) → (Nat → Int32) → (Nat → Int32) → (Nat → Int32) → (Nat → Int32) → (Nat → Int32) → (Nat → Int32) → (Nat → Int32) → (Nat → Int32) → (Nat → Int32) → (Nat → Int32) → (Nat → Int32) → (Nat → Int32) → Prop}
    {w : Nat} (hw : 0 < w) (hw2 : w ≤ m0) (h16 : m0 ≤ 16) (hA : mx_A R T m0)
    (HJ : ∀ s v o, mx_P lv kd mn T m0 (-2) s v o (w + 1) 0 → J (nI (w + 1)) z (nI m0) K L M X R s v o fr tu kf kt pn) :
    ∀ d i s v o, i + d + w = m0 + 1 → mx_P lv kd mn T m0 (-2) s v o w i → wY_readAll_12 post J (nI w) (d + 1) (nI i) z (nI m0) K L M X R s v o fr tu kf kt pn := by
  intro d
  induction d with
  | zero =>
    intro i s v o hi hP
    exact br_t (by rw [nI_add]; exact nI_lt (by omega) (by omega)) (nm_r (nI_1 w) (HJ s v o (mx_P2 (i := i) (by omega) hP)))
  | succ d ih =>
    intro i s v o hi hP
    refine br_f (by rw [nI_add]; exact nI_nlt (by omega) (by omega)) (my_rst hG (nI_add i w) (by omega) (by omega) h16 hA (fun s' v' o' u1 u2 u3 hC => nm_r (nI_1 i) (ih (i + 1) s' v' o' (by omega) ?_)))
    exact mx_P1 h16 hw (by omega) hP u1 u2 u3 hC
theorem my_ra2 {R : Nat → Int32} (hG : mx_G lv kd mn K L M) {post : Int32 → SY → Prop} (h16 : m0 ≤ 16) (hA : mx_A R T m0)
    (H : ∀ s v o, mx_T lv kd mn T m0 (-2) (mx_S s) (mx_V v) (mx_O o) → ∀ r : Int32, r.toInt = mx_S s 0 m0 → post r (z, (nI m0), K, L, M, X, R, s, v, o, fr, tu, kf, kt, pn)) :
    ∀ d w s v o, w + d = m0 + 1 → 0 < w → mx_P lv kd mn T m0 (-2) s v o w 0 → wY_readAll_2 post (d + 1) (nI w) z (nI m0) K L M X R s v o fr tu kf kt pn := by
  intro d
  induction d with
  | zero =>
    intro w s v o hw h0 hP
    have e : w = m0 + 1 := by omega
    subst e
    exact br_t (nI_lt (by omega) (by omega)) (my_str 0 m0 nI_0.symm rfl (by omega) h16 (fun r hr => H s v o (mx_P3 hP) r hr))
  | succ d ih =>
    intro w s v o hw h0 hP
    refine br_f (nI_nlt (by omega) (by omega)) ⟨(m0 + 1 - w) + 1, ?_⟩
    exact my_ra12 hG h0 (by omega) h16 hA (fun s' v' o' hP' => ih (w + 1) s' v' o' (by omega) (by omega) hP') (m0 + 1 - w) 0 s v o (by omega) hP
theorem my_rall {R s v o : Nat → Int32} (hG : mx_G lv kd mn K L M) {post : Int32 → SY → Prop} (h16 : m0 ≤ 16) (hA : mx_A R T m0)
    (H : ∀ s v o, mx_T lv kd mn T m0 (-2) (mx_S s) (mx_V v) (mx_O o) → ∀ r : Int32, r.toInt = mx_S s 0 m0 → post r (z, (nI m0), K, L, M, X, R, s, v, o, fr, tu, kf, kt, pn)) :
    wpY_readAll post (z, (nI m0), K, L, M, X, R, s, v, o, fr, tu, kf, kt, pn) :=
  ⟨m0 + 1, my_ra2 hG h16 hA H m0 1 s v o (by omega) (by omega) mx_P0⟩
theorem my_rt10 {s v o : Nat → Int32} (hG : mx_G lv kd mn K L M) {post : Int32 → SY → Prop} (hn : m0 ≤ 15) (hX : mx_A X T m0)
    (H : ∀ R s v o, mx_A R T m0 → mx_T lv kd mn T m0 (-2) (mx_S s) (mx_V v) (mx_O o) → ∀ r : Int32, r.toInt = mx_S s 0 m0 → post r ((nI m0), (nI m0), K, L, M, X, R, s, v, o, fr, tu, kf, kt, pn)) :
    ∀ d i R, i + d = m0 → (∀ j, j < i → R j = nI (T j)) → wY_readText_10 post (nI m0) (nI m0) (d + 1) (nI i) K L M X R s v o fr tu kf kt pn := by
  intro d
  induction d with
  | zero =>
    intro i R hi hR
    have e : i = m0 := by omega
    subst e
    exact br_t (nI_le (by omega) (by omega)) (my_rall hG (by omega) ⟨hR, hX.2⟩ (fun s' v' o' hT r hr => H R s' v' o' ⟨hR, hX.2⟩ hT r hr))
  | succ d ih =>
    intro i R hi hR
    refine br_f (nI_ge (by omega) (by omega)) ⟨vp_in_nI (by omega) (by omega), vp_in_nI (by omega) (by omega), nm_r (e' := upd R i (nI (T i))) ?_ (nm_r (nI_1 i) (ih (i + 1) _ (by omega) (fun j hj => ?_)))⟩
    · rw [nI_clamp (by omega), hX.1 i (by omega)]
    · by_cases e : j = i
      · rw [e]
        exact pk_us
      · rw [pk_un e]
        exact hR j (by omega)
theorem my_rtx {m : Int32} {R s v o : Nat → Int32} (hG : mx_G lv kd mn K L M) {post : Int32 → SY → Prop} (hn : m0 ≤ 15) (hX : mx_A X T m0)
    (H : ∀ R s v o, mx_A R T m0 → mx_T lv kd mn T m0 (-2) (mx_S s) (mx_V v) (mx_O o) → ∀ r : Int32, r.toInt = mx_S s 0 m0 → post r ((nI m0), (nI m0), K, L, M, X, R, s, v, o, fr, tu, kf, kt, pn)) :
    wpY_readText post ((nI m0), m, K, L, M, X, R, s, v, o, fr, tu, kf, kt, pn) :=
  ⟨m0 + 1, my_rt10 hG hn hX H m0 0 R (by omega) (fun j hj => absurd hj (by omega))⟩
end
end
section
/-! the component reads -/
theorem mz_17 (i j : Nat) : nI i * (17 : Int32) + nI j = nI (17 * i + j) := by
  show nI i * nI 17 + nI j = _
  rw [pk_mul, nI_add]
  exact congrArg nI (by omega)
theorem mz_17b (r j : Nat) : (nI r + 1) * (17 : Int32) + nI j = nI (17 * (r + 1) + j) := by
  rw [nI_1]
  exact mz_17 (r + 1) j
section
variable {z wa wb wc : Int32} {K L M X s o v : Nat → Int32} {lv kd : Nat → Nat} {mn : Nat → Int32} {T : Nat → Nat}
theorem mz_n1 (hG : mx_G lv kd mn K L M) {post : Int32 → Prop} {k : Nat} (hk : k < 5) (h : ∀ r : Int32, r.toInt = mx_n1 kd k → post r) : wpX_needOfFirst post (z, wa, wb, wc, K, L, M, X, s, o, v) (nI k) := by
  obtain ⟨g1, g2, g3, g4, g5⟩ := hG
  have d5 := g1 k
  have eK : K (nI k).toNatClampNeg = nI (kd k) := by rw [nI_clamp (by omega)]; exact g3 _ hk
  have ik : vp_in (nI k) 5 := vp_in_nI hk (by omega)
  have up : (nI k + 1).toInt = (k : Int) + 1 := by
    rw [nI_1, nI_toInt (by omega)]
    omega
  refine ⟨ik, my_if (d := kd k = 1) (by rw [eK]; exact nI_eq (b := 1) (by omega) (by decide)) (fun c => h _ ?_) (fun c => ⟨ik, my_if (d := kd k = 2) (by rw [eK]; exact nI_eq (b := 2) (by omega) (by decide)) (fun c2 => h _ ?_) (fun c2 => h _ ?_)⟩)⟩
  · rw [up, mx_n1s (by omega)]
  · rw [up, mx_n1s (by omega)]
  · rw [nI_toInt (by omega), mx_n1k c c2]
theorem mz_n2 (hG : mx_G lv kd mn K L M) {post : Int32 → Prop} {k : Nat} (hk : k < 5) (h : ∀ r : Int32, r.toInt = mx_n2 kd k → post r) : wpX_needOfSecond post (z, wa, wb, wc, K, L, M, X, s, o, v) (nI k) := by
  obtain ⟨g1, g2, g3, g4, g5⟩ := hG
  have d5 := g1 k
  have eK : K (nI k).toNatClampNeg = nI (kd k) := by rw [nI_clamp (by omega)]; exact g3 _ hk
  have ik : vp_in (nI k) 5 := vp_in_nI hk (by omega)
  have up : (nI k + 1).toInt = (k : Int) + 1 := by
    rw [nI_1, nI_toInt (by omega)]
    omega
  refine ⟨ik, my_if (d := kd k = 0) (by rw [eK]; exact nI_eq (b := 0) (by omega) (by decide)) (fun c => h _ ?_) (fun c => ⟨ik, my_if (d := kd k = 2) (by rw [eK]; exact nI_eq (b := 2) (by omega) (by decide)) (fun c2 => h _ ?_) (fun c2 => h _ ?_)⟩)⟩
  · rw [up, mx_n2s (by omega)]
  · rw [up, mx_n2s (by omega)]
  · rw [nI_toInt (by omega), mx_n2k c c2]
theorem mz_one {post : Int32 → Prop} {a b : Int32} (h : post (mx_one a b)) : wpX_valueOfOne post a b := by
  unfold mx_one at h
  by_cases c0 : a = 0
  · rw [if_pos c0] at h
    subst c0
    exact br_f (by decide) (br_f (by decide) (br_t rfl h))
  · rw [if_neg c0] at h
    by_cases c1 : a = 1
    · rw [if_pos c1] at h
      subst c1
      exact br_f (by decide) (br_f (by decide) (br_f (by decide) (br_t rfl h)))
    · rw [if_neg c1] at h
      by_cases c2 : a = 2
      · rw [if_pos c2] at h
        subst c2
        exact br_f (by decide) (br_f (by decide) (br_f (by decide) (br_f (by decide) (br_t rfl h))))
      · rw [if_neg c2] at h
        exact br_c (fun _ => h) (fun _ => br_c (fun _ => h) (fun _ => br_f c0 (br_f c1 (br_f c2 trivial))))
theorem mz_two {post : Int32 → Prop} {a b c : Int32} (h : post (mx_two a b c)) : wpX_valueOfTwo post a b c := by
  unfold mx_two at h
  by_cases c0 : a = 0
  · rw [if_pos c0] at h
    subst c0
    exact br_f (by decide) (br_f (by decide) (br_t rfl h))
  · rw [if_neg c0] at h
    by_cases c1 : a = 1
    · rw [if_pos c1] at h
      subst c1
      exact br_f (by decide) (br_f (by decide) (br_f (by decide) (br_t rfl h)))
    · rw [if_neg c1] at h
      by_cases c2 : a = 2
      · rw [if_pos c2] at h
        subst c2
        exact br_f (by decide) (br_f (by decide) (br_f (by decide) (br_f (by decide) (br_t rfl h))))
      · rw [if_neg c2] at h
        exact br_c (fun _ => h) (fun _ => br_c (fun _ => h) (fun _ => br_f c0 (br_f c1 (br_f c2 trivial))))
/-- the diagonal stands for the empty spans -/
def mx_dg (s : Nat → Int32) : Prop := ∀ i, i ≤ 16 → s (17 * i + i) = -1
theorem mx_Sd {s : Nat → Int32} {i j : Nat} (hd : mx_dg s) (hij : i ≤ j) (hj : j ≤ 16) : (s (17 * i + j)).toInt = mx_S s i j := by
  by_cases c : i < j
  · rw [mx_S1 c]
  · have e : i = j := by omega
    subst e
    rw [mx_S0 (Nat.le_refl _), hd i hj]
    decide
theorem mz_jn (hG : mx_G lv kd mn K L M) {post : Int32 → Prop} {i r j : Nat} (hd : mx_dg s) (hj : j ≤ 16) (hi : i ≤ r) (hr : r < j) (hR : X r = nI (T r)) (h10 : 10 ≤ T r) (h18 : T r < 18)
    (H1 : mx_F lv kd T (mx_S s) i r j → post 1) (H0 : ¬ mx_F lv kd T (mx_S s) i r j → post 0) : wpX_joins post (z, wa, wb, wc, K, L, M, X, s, o, v) (nI i) (nI r) (nI j) := by
  have hG' := hG
  obtain ⟨g1, g2, g3, g4, g5⟩ := hG
  have k5 := g2 (T r)
  have d5 := g1 (lv (T r))
  have n1 := mx_n1g kd (lv (T r))
  have n2 := mx_n2g kd (lv (T r))
  have e10 : X (nI r).toNatClampNeg - 10 = nI (T r - 10) := by
    rw [nI_clamp (by omega), hR]
    exact pk_sub (b := 10) h10
  have eL : L (X (nI r).toNatClampNeg - 10).toNatClampNeg = nI (lv (T r)) := by
    rw [e10, nI_clamp (by omega)]
    exact g4 _ h10 h18
  have eK : K (nI (lv (T r))).toNatClampNeg = nI (kd (lv (T r))) := by rw [nI_clamp (by omega)]; exact g3 _ k5
  have eA := mz_17 i r
  have eB := mz_17b r j
  have iA : vp_in (nI i * (17 : Int32) + nI r) 289 := by rw [eA]; exact vp_in_nI (by omega) (by omega)
  have iB : vp_in ((nI r + 1) * (17 : Int32) + nI j) 289 := by rw [eB]; exact vp_in_nI (by omega) (by omega)
  have sA : s (nI i * (17 : Int32) + nI r).toNatClampNeg = s (17 * i + r) := by rw [eA, nI_clamp (by omega)]
  have sB : s ((nI r + 1) * (17 : Int32) + nI j).toNatClampNeg = s (17 * (r + 1) + j) := by rw [eB, nI_clamp (by omega)]
  have ha := mx_Sd hd hi (by omega : r ≤ 16)
  have hb := mx_Sd hd (by omega : r + 1 ≤ j) hj
  have tail : ∀ x z0 : Int32, (x = 0 ∨ z0 = 0 → ¬ mx_F lv kd T (mx_S s) i r j) → (x ≠ 0 → z0 ≠ 0 → mx_F lv kd T (mx_S s) i r j) → wX_joins_127 post x z0 z wa wb wc K L M X s o v := by
    intro x z0 h0 h1
    exact br_c (fun e => H0 (h0 (Or.inl e))) (fun e => br_c (fun e2 => H0 (h0 (Or.inr e2))) (fun e2 => H1 (h1 e e2)))
  have second : ∀ x : Int32, (x = 0 ∨ x = 1) → (x = 1 ↔ ((kd (lv (T r)) = 3 ∧ r = i) ∨ (kd (lv (T r)) ≠ 3 ∧ mx_n1 kd (lv (T r)) ≤ mx_S s i r))) →
      wX_joins_88 post (nI r) (nI j) (nI (lv (T r))) (nI (kd (lv (T r)))) (s (17 * (r + 1) + j)) x z wa wb wc K L M X s o v := by
    intro x hx hl
    have x0 : x = 0 → ¬ mx_F lv kd T (mx_S s) i r j := by
      intro e hF
      have e1 := hl.mpr hF.2.2.2.2.1
      rw [e] at e1
      exact absurd e1 (by decide)
    have x1 : x ≠ 0 → ((kd (lv (T r)) = 3 ∧ r = i) ∨ (kd (lv (T r)) ≠ 3 ∧ mx_n1 kd (lv (T r)) ≤ mx_S s i r)) := by
      intro e
      rcases hx with hx | hx
      · exact absurd hx e
      · exact hl.mp hx
    by_cases k4 : kd (lv (T r)) = 4
    · refine br_t (congrArg nI k4) (my_if (d := r + 1 = j) (by rw [nI_1]; exact nI_eq (by omega) (by omega)) (fun c => tail _ _ ?_ ?_) (fun c => tail _ _ ?_ ?_))
      · intro e
        rcases e with e | e
        · exact x0 e
        · exact absurd e (by decide)
      · exact fun e _ => ⟨hi, hr, h10, h18, x1 e, Or.inl ⟨k4, c⟩⟩
      · intro _ hF
        have q := hF.2.2.2.2.2
        omega
      · exact fun _ e => absurd rfl e
    · have n4 : ¬ nI (kd (lv (T r))) = 4 := fun e => k4 ((nI_eq (b := 4) (by omega) (by decide)).mp e)
      refine br_f n4 (mz_n2 hG' k5 (fun b' hb' => my_if (d := mx_S s (r + 1) j < mx_n2 kd (lv (T r))) (by rw [Int32.lt_iff_toInt_lt, hb, hb']) (fun c => tail _ _ ?_ ?_) (fun c => tail _ _ ?_ ?_)))
      · intro _ hF
        have q := hF.2.2.2.2.2
        omega
      · exact fun _ e => absurd rfl e
      · intro e
        rcases e with e | e
        · exact x0 e
        · exact absurd e (by decide)
      · exact fun e _ => ⟨hi, hr, h10, h18, x1 e, Or.inr ⟨k4, by omega⟩⟩
  refine ⟨vp_in_nI (by omega) (by omega), by rw [e10]; exact vp_in_nI (by omega) (by omega), nm_r eL ⟨vp_in_nI (by omega) (by omega), nm_r eK ⟨iA, nm_r sA ⟨iB, nm_r sB ?_⟩⟩⟩⟩
  by_cases k3 : kd (lv (T r)) = 3
  · refine br_t (congrArg nI k3) (pk_eq r i (fun e => second 1 (Or.inr rfl) ⟨fun _ => Or.inl ⟨k3, e⟩, fun _ => rfl⟩) (fun e => second 0 (Or.inl rfl) ⟨fun z => absurd z (by decide), fun z => ?_⟩))
    omega
  · have n3 : ¬ nI (kd (lv (T r))) = 3 := fun e => k3 ((nI_eq (b := 3) (by omega) (by decide)).mp e)
    refine br_f n3 (mz_n1 hG' k5 (fun a' ha' => my_if (d := mx_S s i r < mx_n1 kd (lv (T r))) (by rw [Int32.lt_iff_toInt_lt, ha, ha']) (fun c => second 0 (Or.inl rfl) ⟨fun z => absurd z (by decide), fun z => ?_⟩) (fun c => second 1 (Or.inr rfl) ⟨fun _ => Or.inr ⟨k3, by omega⟩, fun _ => rfl⟩)))
    omega
theorem mz_jv (hG : mx_G lv kd mn K L M) {post : Int32 → Prop} {i r j : Nat} (hj : j ≤ 16) (hi : i ≤ r) (hr : r < j) (hR : X r = nI (T r)) (h10 : 10 ≤ T r) (h18 : T r < 18)
    (H : post (mx_jv lv kd mn T (mx_V v) i r j)) : wpX_joinedValue post (z, wa, wb, wc, K, L, M, X, s, o, v) (nI i) (nI r) (nI j) := by
  obtain ⟨g1, g2, g3, g4, g5⟩ := hG
  have k5 := g2 (T r)
  have d5 := g1 (lv (T r))
  have e10 : X (nI r).toNatClampNeg - 10 = nI (T r - 10) := by
    rw [nI_clamp (by omega), hR]
    exact pk_sub (b := 10) h10
  have eL : L (nI (T r - 10)).toNatClampNeg = nI (lv (T r)) := by
    rw [nI_clamp (by omega)]
    exact g4 _ h10 h18
  have eM : M (nI (T r - 10)).toNatClampNeg = mn (T r) := by
    rw [nI_clamp (by omega)]
    exact g5 _ h10 h18
  have eK : K (L (nI (T r - 10)).toNatClampNeg).toNatClampNeg = nI (kd (lv (T r))) := by rw [eL, nI_clamp (by omega)]; exact g3 _ k5
  have eA := mz_17 i r
  have eB := mz_17b r j
  have iA : vp_in (nI i * (17 : Int32) + nI r) 289 := by rw [eA]; exact vp_in_nI (by omega) (by omega)
  have iB : vp_in ((nI r + 1) * (17 : Int32) + nI j) 289 := by rw [eB]; exact vp_in_nI (by omega) (by omega)
  have vA : v (nI i * (17 : Int32) + nI r).toNatClampNeg = mx_V v i r := by rw [eA, nI_clamp (by omega)]; rfl
  have vB : v ((nI r + 1) * (17 : Int32) + nI j).toNatClampNeg = mx_V v (r + 1) j := by rw [eB, nI_clamp (by omega)]; rfl
  have x8 : vp_in (nI (T r - 10)) 8 := vp_in_nI (by omega) (by omega)
  refine ⟨vp_in_nI (by omega) (by omega), nm_r e10 ⟨x8, by rw [eL]; exact vp_in_nI (by omega) (by omega), nm_r eK ⟨iA, nm_r vA ⟨iB, nm_r vB ?_⟩⟩⟩⟩
  by_cases k3 : kd (lv (T r)) = 3
  · have ej : mx_jv lv kd mn T (mx_V v) i r j = mx_one (mn (T r)) (mx_V v (r + 1) j) := if_pos k3
    rw [ej] at H
    refine br_t (congrArg nI k3) ⟨x8, mz_one ?_⟩
    rw [eM]
    exact H
  · have n3 : ¬ nI (kd (lv (T r))) = 3 := fun e => k3 ((nI_eq (b := 3) (by omega) (by decide)).mp e)
    refine br_f n3 ?_
    by_cases k4 : kd (lv (T r)) = 4
    · have ej : mx_jv lv kd mn T (mx_V v) i r j = mx_one (mn (T r)) (mx_V v i r) := (if_neg k3).trans (if_pos k4)
      rw [ej] at H
      refine br_t (congrArg nI k4) ⟨x8, mz_one ?_⟩
      rw [eM]
      exact H
    · have ej : mx_jv lv kd mn T (mx_V v) i r j = mx_two (mn (T r)) (mx_V v i r) (mx_V v (r + 1) j) := (if_neg k3).trans (if_neg k4)
      rw [ej] at H
      have n4 : ¬ nI (kd (lv (T r))) = 4 := fun e => k4 ((nI_eq (b := 4) (by omega) (by decide)).mp e)
      refine br_f n4 ⟨x8, mz_two ?_⟩
      rw [eM]
      exact H
end
end
section
/-! the component fills its tables -/
section
variable {z wa wb wc : Int32} {K L M X s o v : Nat → Int32} {lv kd : Nat → Nat} {mn : Nat → Int32} {T : Nat → Nat}
theorem mz_op {post : Int32 → Prop} {x : Int32} {t : Nat} (hx : x = nI t) (ht : t < 20) (H1 : 10 ≤ t → t < 18 → post 1) (H0 : ¬ (10 ≤ t ∧ t < 18) → post 0) : wpX_isOperator post x := by
  subst hx
  refine my_if (d := t < 10) (nI_ltI (b := 10) (by omega) (by decide)) (fun c => H0 (by omega)) (fun c => my_if (d := 18 ≤ t) (nI_leI (a := 18) (by decide) (by omega)) (fun c2 => H0 (by omega)) (fun c2 => H1 (by omega) (by omega)))
theorem mz_rsE {post : SX → Prop} {x1 x2 x4 : Int32} {n q : Nat} (hq : q < 289) (hs : s q ≠ -1) (h : post (z, wa, wb, wc, K, L, M, X, s, o, v)) : wX_readSpan_75 post x1 x2 (nI q) z wa wb wc (n + 1) x4 K L M X s o v := by
  refine br_c (fun _ => h) (fun _ => ⟨vp_in_nI hq (by omega), br_f ?_ h⟩)
  rw [nI_clamp (by omega)]
  exact hs
theorem mz_rs (hG : mx_G lv kd mn K L M) {post : SX → Prop} {i j m0 : Nat} (hm : j ≤ m0) (h16 : m0 ≤ 16) (hA : mx_A X T m0) (hd : mx_dg s) (h1 : s (17 * i + j) = -1)
    (H1 : ∀ r, mx_F lv kd T (mx_S s) i r j → post (z, wa, wb, wc, K, L, M, X, (upd s (17 * i + j) (nI (lv (T r)))), (upd o (17 * i + j) (nI r)), (upd v (17 * i + j) (mx_jv lv kd mn T (mx_V v) i r j))))
    (H0 : (∀ r, ¬ mx_F lv kd T (mx_S s) i r j) → post (z, wa, wb, wc, K, L, M, X, s, o, v)) :
    ∀ d r, r + d = j → i ≤ r → (∀ x, x < r → ¬ mx_F lv kd T (mx_S s) i x j) → wX_readSpan_75 post (nI i) (nI j) (nI (17 * i + j)) z wa wb wc (d + 1) (nI r) K L M X s o v := by
  have hG' := hG
  obtain ⟨g1, g2, g3, g4, g5⟩ := hG
  intro d
  induction d with
  | zero =>
    intro r hr hi hb
    refine br_t (nI_le (by omega) (by omega)) (H0 (fun x hF => hb x ?_ hF))
    have := hF.2.1
    omega
  | succ d ih =>
    intro r hr hi hb
    have hR : X (nI r).toNatClampNeg = nI (T r) := by rw [nI_clamp (by omega)]; exact hA.1 r (by omega)
    have hT := hA.2 r
    have ir : vp_in (nI r) 16 := vp_in_nI (by omega) (by omega)
    have iq : vp_in (nI (17 * i + j)) 289 := vp_in_nI (by omega) (by omega)
    have cq : (nI (17 * i + j)).toNatClampNeg = 17 * i + j := nI_clamp (by omega)
    have nx : ¬ mx_F lv kd T (mx_S s) i r j → wX_readSpan_75 post (nI i) (nI j) (nI (17 * i + j)) z wa wb wc (d + 1) (nI (r + 1)) K L M X s o v := by
      intro hn
      refine ih (r + 1) (by omega) (by omega) (fun x hx hF => ?_)
      by_cases e : x = r
      · subst e
        exact hn hF
      · exact hb x (by omega) hF
    refine br_f (nI_ge (by omega) (by omega)) ⟨iq, br_t (by rw [cq]; exact h1) ⟨ir, mz_op hR hT (fun c1 c2 => br_f (by decide) ?_) (fun c => br_t rfl (nm_r (nI_1 r) (nx (fun hF => c ⟨hF.2.2.1, hF.2.2.2.1⟩))))⟩⟩
    refine mz_jn hG' hd (by omega) hi (by omega) (hA.1 r (by omega)) c1 c2 (fun hF => br_f (by decide) ?_) (fun hF => br_t rfl (nm_r (nI_1 r) (nx hF)))
    have e10 : X (nI r).toNatClampNeg - 10 = nI (T r - 10) := by
      rw [hR]
      exact pk_sub (b := 10) c1
    have eL : L (X (nI r).toNatClampNeg - 10).toNatClampNeg = nI (lv (T r)) := by
      rw [e10, nI_clamp (by omega)]
      exact g4 _ c1 c2
    have l5 := g2 (T r)
    refine ⟨ir, by rw [e10]; exact vp_in_nI (by omega) (by omega), iq, nm_r (e' := upd s (17 * i + j) (nI (lv (T r)))) (by rw [cq, eL]) ⟨iq, nm_r (e' := upd o (17 * i + j) (nI r)) (by rw [cq]) ?_⟩⟩
    refine mz_jv hG' (by omega) hi (by omega) (hA.1 r (by omega)) c1 c2 ⟨iq, nm_r (e' := upd v (17 * i + j) (mx_jv lv kd mn T (mx_V v) i r j)) (by rw [cq]) (nm_r (nI_1 r) (mz_rsE (by omega) ?_ (H1 r hF)))⟩
    rw [pk_us]
    intro e
    have e2 := congrArg Int32.toInt e
    rw [nI_toInt (by omega), my_m1] at e2
    omega
theorem mz_rsp (hG : mx_G lv kd mn K L M) {post : SX → Prop} {y : Int32} {i j m0 : Nat} (hy : y = nI j) (hij : i < j) (hm : j ≤ m0) (h16 : m0 ≤ 16) (hA : mx_A X T m0) (hd : mx_dg s) (h1 : s (17 * i + j) = -1)
    (hS : mx_S s (i + 1) (j - 1) = -1 ∨ 0 ≤ mx_S s (i + 1) (j - 1))
    (H : ∀ s' o' v', mx_U s s' i j → mx_U v v' i j → mx_U o o' i j → mx_C lv kd mn T (-1) (mx_S s') (mx_V v') (mx_O o') i j → post (z, wa, wb, wc, K, L, M, X, s', o', v')) : wpX_readSpan post (z, wa, wb, wc, K, L, M, X, s, o, v) (nI i) y := by
  subst hy
  have j16 : j ≤ 16 := by omega
  have hG' := hG
  obtain ⟨g1, g2, g3, g4, g5⟩ := hG
  have eq := mz_17 i j
  have iq : vp_in (nI (17 * i + j)) 289 := vp_in_nI (by omega) (by omega)
  have cq : (nI (17 * i + j)).toNatClampNeg = 17 * i + j := nI_clamp (by omega)
  have u1 : ∀ a : Int32, mx_U s (upd s (17 * i + j) a) i j := fun a => mx_Uu j16
  have v1 : ∀ a : Int32, mx_U v (upd v (17 * i + j) a) i j := fun a => mx_Uu j16
  have o1 : ∀ a : Int32, mx_U o (upd o (17 * i + j) a) i j := fun a => mx_Uu j16
  have o2 : ∀ a b : Int32, mx_U o (upd (upd o (17 * i + j) a) (17 * i + j) b) i j := fun a b => mx_Ut (mx_Uu j16) (mx_Uu j16)
  have hRi : X (nI i).toNatClampNeg = nI (T i) := by rw [nI_clamp (by omega)]; exact hA.1 i (by omega)
  have eJ : nI j - 1 = nI (j - 1) := pk_sub (b := 1) (by omega)
  have hRj : X (nI j - 1).toNatClampNeg = nI (T (j - 1)) := by rw [eJ, nI_clamp (by omega)]; exact hA.1 (j - 1) (by omega)
  have ti := hA.2 i
  have tj := hA.2 (j - 1)
  have ii : vp_in (nI i) 16 := vp_in_nI (by omega) (by omega)
  have rest : ¬ (j = i + 1 ∧ T i < 10) → ¬ mx_B T (mx_S s) i j → ∃ n, wX_readSpan_75 post (nI i) (nI j) (nI (17 * i + j)) z wa wb wc n (nI i) K L M X s (upd o (17 * i + j) (-1)) v := by
    intro c1 c2
    refine ⟨j - i + 1, mz_rs hG' hm h16 hA hd h1 (fun r hF => ?_) (fun hn => ?_) (j - i) i (by omega) (Nat.le_refl _) (fun x hx hF => absurd hF.1 (by omega))⟩
    · exact H _ _ _ (u1 _) (v1 _) (o2 _ _) (mx_mF j16 (u1 _) (v1 _) hF (g2 _) pk_us pk_us pk_us)
    · exact H _ _ _ mx_Ur mx_Ur (o1 _) (mx_m0 j16 hij mx_Ur h1 c1 c2 hn)
  refine nm_r eq ⟨iq, nm_r (e' := upd o (17 * i + j) (-1)) (by rw [cq]) (my_if (d := j = i + 1) ?_ (fun c => ⟨ii, ?_⟩) (fun c => ⟨ii, ?_⟩))⟩
  · rw [pk_sub (by omega)]
    refine (nI_eq (b := 1) (by omega) (by decide)).trans ?_
    omega
  · rw [hRi]
    refine my_if (d := 10 ≤ T i) (nI_leI (a := 10) (by decide) (by omega)) (fun c2 => ?_) (fun c2 => ⟨iq, nm_r (e' := upd s (17 * i + j) 5) (by rw [cq]) ⟨iq, nm_r (e' := upd v (17 * i + j) (nI (T i))) (by rw [cq]) ?_⟩⟩)
    · refine H _ _ _ mx_Ur mx_Ur (o1 _) (mx_m0 j16 hij mx_Ur h1 (by omega) (fun hB => ?_) (fun r hF => ?_))
      · have b1 := hB.1
        have b2 := hB.2.1
        have e : j - 1 = i := by omega
        rw [e] at b2
        omega
      · obtain ⟨p1, p2, p3, p4, hl, hr⟩ := hF
        have e : r = i := by omega
        subst e
        have n1 := mx_n1g kd (lv (T r))
        have n2 := mx_n2g kd (lv (T r))
        rw [mx_S0 (Nat.le_refl _)] at hl
        rw [mx_S0 (by omega)] at hr
        omega
    · exact H _ _ _ (u1 _) (v1 _) (o1 _) (mx_mN c (by omega) pk_us pk_us pk_us)
  · refine my_if (d := T i = 18) (by rw [hRi]; exact nI_eq (b := 18) (by omega) (by decide)) (fun c2 => ⟨by rw [eJ]; exact vp_in_nI (by omega) (by omega), my_if (d := T (j - 1) = 19) (by rw [hRj]; exact nI_eq (b := 19) (by omega) (by decide)) (fun c3 => ?_) (fun c3 => rest (by omega) (fun hB => c3 hB.2.1))⟩) (fun c2 => rest (by omega) (fun hB => c2 hB.1))
    have e3 : ((nI i + 1) * (17 : Int32) + nI j) - 1 = nI (17 * (i + 1) + (j - 1)) := by
      rw [mz_17b i j]
      exact (pk_sub (b := 1) (by omega)).trans (congrArg nI (by omega))
    have c4 : (nI (17 * (i + 1) + (j - 1))).toNatClampNeg = 17 * (i + 1) + (j - 1) := nI_clamp (by omega)
    have i4 : vp_in (nI (17 * (i + 1) + (j - 1))) 289 := vp_in_nI (by omega) (by omega)
    have sd := mx_Sd hd (by omega : i + 1 ≤ j - 1) (by omega)
    rw [e3]
    refine ⟨i4, my_if (d := mx_S s (i + 1) (j - 1) = -1) (by rw [c4]; exact my_em1 sd) (fun c5 => rest (by omega) (fun hB => ?_)) (fun c5 => ⟨iq, nm_r (e' := upd s (17 * i + j) 5) (by rw [cq]) ⟨i4, iq, nm_r (e' := upd v (17 * i + j) (v (17 * (i + 1) + (j - 1)))) (by rw [cq, c4]) ?_⟩⟩)⟩
    · have b3 := hB.2.2
      omega
    · refine ⟨1, mz_rsE (n := 0) (by omega) ?_ (H _ _ _ (u1 _) (v1 _) (o1 _) (mx_mB j16 (u1 _) (v1 _) ⟨c2, c3, by omega⟩ pk_us ?_ pk_us))⟩
      · rw [pk_us]
        decide
      · rw [pk_us]
        decide
end
/-- not yet done: these cells still hold -1 -/
def mx_E (s : Nat → Int32) (w i : Nat) : Prop := ∀ a b, a < b → b ≤ 16 → (w < b - a ∨ (b - a = w ∧ i ≤ a)) → s (17 * a + b) = -1
theorem mx_C1 {lv kd : Nat → Nat} {mn : Nat → Int32} {T : Nat → Nat} {cb : Int} {S : Nat → Nat → Int} {V : Nat → Nat → Int32} {O : Nat → Nat → Int} {i j : Nat} (h : mx_C lv kd mn T cb S V O i j) : S i j = -1 ∨ 0 ≤ S i j := by
  rcases h with ⟨_, _, h, _⟩ | ⟨_, h, _⟩ | ⟨r, _, h, _⟩ | ⟨h, _⟩
  · omega
  · omega
  · omega
  · exact Or.inl h
section
variable {z wa wb wc : Int32} {K L M X : Nat → Int32} {lv kd : Nat → Nat} {mn : Nat → Int32} {T : Nat → Nat} {m0 : Nat}
theorem mz_rt31 (hG : mx_G lv kd mn K L M) {post : Int32 → SX → Prop} {J : Int32 → Int32 → Int32 → Int32 → Int32 → (Nat → Int32) → (Nat → Int32) → (Nat → Int32) → (Nat → Int32) → (Nat → Int32) → (Nat → Int32) → (Nat → Int32) → Prop}
    {w : Nat} (hw : 0 < w) (hw2 : w ≤ m0) (h16 : m0 ≤ 16) (hA : mx_A X T m0)
    (HJ : ∀ s o v, mx_P lv kd mn T m0 (-1) s v o (w + 1) 0 → mx_dg s → mx_E s (w + 1) 0 → J (nI (w + 1)) z wa wb wc K L M X s o v) :
    ∀ d i s o v, i + d + w = m0 + 1 → mx_P lv kd mn T m0 (-1) s v o w i → mx_dg s → mx_E s w i → wX_readText_31 post J (nI m0) (nI w) (d + 1) (nI i) z wa wb wc K L M X s o v := by
  intro d
  induction d with
  | zero =>
    intro i s o v hi hP hd hE
    exact br_t (by rw [nI_add]; exact nI_lt (by omega) (by omega)) (nm_r (nI_1 w) (HJ s o v (mx_P2 (i := i) (by omega) hP) hd (fun a b h1 h2 h3 => hE a b h1 h2 (by omega))))
  | succ d ih =>
    intro i s o v hi hP hd hE
    refine br_f (by rw [nI_add]; exact nI_nlt (by omega) (by omega)) (mz_rsp hG (nI_add i w) (by omega) (by omega) h16 hA hd (hE i (i + w) (by omega) (by omega) (by omega)) ?_ (fun s' o' v' u1 u2 u3 hC => nm_r (nI_1 i) (ih (i + 1) s' o' v' (by omega) ?_ ?_ ?_)))
    · by_cases c : i + 1 < i + w - 1
      · exact mx_C1 (hP (i + 1) (i + w - 1) c (by omega) (by omega))
      · exact Or.inl (mx_S0 (by omega))
    · exact mx_P1 h16 hw (by omega) hP u1 u2 u3 hC
    · intro a ha
      rw [u1 a a ha (by omega)]
      exact hd a ha
    · intro a b h1 h2 h3
      rw [u1 a b h2 (by omega)]
      exact hE a b h1 h2 (by omega)
theorem mz_rt24 (hG : mx_G lv kd mn K L M) {post : Int32 → SX → Prop} (h16 : m0 ≤ 16) (hA : mx_A X T m0)
    (H : ∀ s o v, mx_T lv kd mn T m0 (-1) (mx_S s) (mx_V v) (mx_O o) → mx_dg s → ∀ r : Int32, (r = 0 ∧ mx_S s 0 m0 = -1) ∨ (r = 1 ∧ mx_S s 0 m0 ≠ -1) → post r (z, wa, wb, wc, K, L, M, X, s, o, v)) :
    ∀ d w s o v, w + d = m0 + 1 → 0 < w → mx_P lv kd mn T m0 (-1) s v o w 0 → mx_dg s → mx_E s w 0 → wX_readText_24 post (nI m0) (d + 1) (nI w) z wa wb wc K L M X s o v := by
  intro d
  induction d with
  | zero =>
    intro w s o v hw h0 hP hd hE
    have e : w = m0 + 1 := by omega
    subst e
    have e0 : 17 * 0 + m0 = m0 := by omega
    have sd := mx_Sd hd (Nat.zero_le m0) h16
    rw [e0] at sd
    refine br_t (nI_lt (by omega) (by omega)) ⟨vp_in_nI (by omega) (by omega), my_if (d := mx_S s 0 m0 = -1) (by rw [nI_clamp (by omega)]; exact my_em1 sd) (fun c => H s o v (mx_P3 hP) hd 0 (Or.inl ⟨rfl, c⟩)) (fun c => H s o v (mx_P3 hP) hd 1 (Or.inr ⟨rfl, c⟩))⟩
  | succ d ih =>
    intro w s o v hw h0 hP hd hE
    refine br_f (nI_nlt (by omega) (by omega)) ⟨(m0 + 1 - w) + 1, ?_⟩
    exact mz_rt31 hG h0 (by omega) h16 hA (fun s' o' v' hP' hd' hE' => ih (w + 1) s' o' v' (by omega) (by omega) hP' hd' hE') (m0 + 1 - w) 0 s o v (by omega) hP hd hE
theorem mz_rt2 {o v : Nat → Int32} (hG : mx_G lv kd mn K L M) {post : Int32 → SX → Prop} (h16 : m0 ≤ 16) (hA : mx_A X T m0)
    (H : ∀ s o v, mx_T lv kd mn T m0 (-1) (mx_S s) (mx_V v) (mx_O o) → mx_dg s → ∀ r : Int32, (r = 0 ∧ mx_S s 0 m0 = -1) ∨ (r = 1 ∧ mx_S s 0 m0 ≠ -1) → post r (z, wa, wb, wc, K, L, M, X, s, o, v)) :
    ∀ d i s, i + d = 289 → (∀ y, y < i → s y = -1) → wX_readText_2 post (nI m0) z wa wb wc (d + 1) (nI i) K L M X s o v := by
  intro d
  induction d with
  | zero =>
    intro i s hi hs
    refine br_t (nI_le (a := 289) (by omega) (by omega)) ⟨m0 + 1, mz_rt24 hG h16 hA H m0 1 s o v (by omega) (by omega) mx_P0 (fun a ha => hs _ (by omega)) (fun a b h1 h2 h3 => hs _ (by omega))⟩
  | succ d ih =>
    intro i s hi hs
    refine br_f (nI_ge (b := 289) (by omega) (by decide)) ⟨vp_in_nI (by omega) (by omega), nm_r (e' := upd s i (-1)) (by rw [nI_clamp (by omega)]) (nm_r (nI_1 i) (ih (i + 1) _ (by omega) (fun y hy => ?_)))⟩
    by_cases e : y = i
    · rw [e]
      exact pk_us
    · rw [pk_un e]
      exact hs y (by omega)
theorem mz_rtx {s o v : Nat → Int32} (hG : mx_G lv kd mn K L M) {post : Int32 → SX → Prop} {x : Int32} (hx : x = nI m0) (h16 : m0 ≤ 16) (hA : mx_A X T m0)
    (H : ∀ s o v, mx_T lv kd mn T m0 (-1) (mx_S s) (mx_V v) (mx_O o) → mx_dg s → ∀ r : Int32, (r = 0 ∧ mx_S s 0 m0 = -1) ∨ (r = 1 ∧ mx_S s 0 m0 ≠ -1) → post r (z, wa, wb, wc, K, L, M, X, s, o, v)) :
    wpX_readText post (z, wa, wb, wc, K, L, M, X, s, o, v) x := by
  subst hx
  exact ⟨289 + 1, mz_rt2 hG h16 hA H 289 0 s (by omega) (fun y hy => absurd hy (by omega))⟩
end
end
section
/-! both sides' tables are the same; the walks down -/
section
variable {lv kd : Nat → Nat} {mn : Nat → Int32} {T : Nat → Nat} {n : Nat} {S S' : Nat → Nat → Int} {V V' : Nat → Nat → Int32} {O O' : Nat → Nat → Int}
theorem mw_eq {cb cb' : Int} (hk : ∀ k, kd k < 5) (h : mx_T lv kd mn T n cb S V O) (h' : mx_T lv kd mn T n cb' S' V' O') {i j : Nat} (hj : j ≤ n) :
    S' i j = S i j ∧ (0 ≤ S' i j → V' i j = V i j ∧ ((0 ≤ O' i j ∧ O i j = O' i j) ∨ (O' i j = -1 ∧ O i j = -1) ∨ (O' i j = cb' ∧ O i j = cb))) := by
  have t := mx_tr hk h h' (a := 0) (b := n) (c := 0) (Nat.le_refl _) (Nat.le_refl _) (fun x _ _ => rfl) j i j (by omega) (Nat.zero_le _) hj
  refine ⟨t.1, fun h0 => ⟨(t.2 h0).1, ?_⟩⟩
  rcases (t.2 h0).2 with ⟨c1, c2⟩ | c | c
  · refine Or.inl ⟨c1, ?_⟩
    have c3 : O i j = O' i j + ((0 : Nat) : Int) := c2
    omega
  · exact Or.inr (Or.inl c)
  · exact Or.inr (Or.inr c)
theorem mw_eqK {cb cb' : Int} (hk : ∀ k, kd k < 5) (h : mx_T lv kd mn T n cb S V O) (h' : mx_T lv kd mn T n cb' S' V' O') (hcb : cb < 0) (hcb' : cb' < 0) {x d i j f t : Nat} {m q : Int} (hj : j ≤ n) (h0 : 0 ≤ S' i j) (hi : i ≤ x) (hx : x < j)
    (hK : mx_K lv kd T O x d i j m f t q) : mx_K lv kd T O' x d i j m f t q := by
  obtain ⟨f', t', e1, e2, hK'⟩ := mx_tK hk h h' hcb hcb' (a := 0) (b := n) (c := 0) (x := x) (Nat.le_refl _) (Nat.le_refl _) (fun x _ _ => rfl) d i j m f t q (Nat.zero_le _) hj h0 hi hx hK
  have e1' : f = f' := e1
  have e2' : t = t' := e2
  rw [e1', e2']
  exact hK'
theorem mw_Ku {x : Nat} : ∀ d d' i j m f t q f' t' q', mx_K lv kd T O x d i j m f t q → mx_K lv kd T O x d' i j m f' t' q' → f' = f ∧ t' = t ∧ q' = q := by
  intro d
  induction d with
  | zero =>
    intro d' i j m f t q f' t' q' h h'
    obtain ⟨h1, h2, h3, h4⟩ := h
    cases d' with
    | zero =>
      obtain ⟨k1, k2, k3, k4⟩ := h'
      exact ⟨k2.trans h2.symm, k3.trans h3.symm, k4.trans h4.symm⟩
    | succ d' =>
      obtain ⟨a, b, c, e, _⟩ := h'
      rw [h1] at e
      cases e
  | succ d ih =>
    intro d' i j m f t q f' t' q' h h'
    obtain ⟨a, b, c, e, hK⟩ := h
    cases d' with
    | zero =>
      obtain ⟨k1, _⟩ := h'
      rw [e] at k1
      cases k1
    | succ d' =>
      obtain ⟨a2, b2, c2, e2, hK2⟩ := h'
      rw [e] at e2
      cases e2
      exact ih d' a b c f t q f' t' q' hK hK2
end
section
variable {z : Int32} {K L M X R fr tu kf kt pn : Nat → Int32} {wa wb wc : Int32} {X2 : Nat → Int32} {lv kd : Nat → Nat} {mn : Nat → Int32} {T : Nat → Nat} {n : Nat} {s v o s2 v2 o2 : Nat → Int32}
theorem mw_root (hk : ∀ k, kd k < 5) (h2 : mx_T lv kd mn T n (-1) (mx_S s2) (mx_V v2) (mx_O o2)) (hn : n ≤ 16) :
    ∀ d i, n ≤ i + i + d → i + i < n → 0 ≤ mx_S s2 i (n - i) → ∃ a : Int32,
      (∀ post : Int32 → SX → Prop, post a ((nI n), wa, wb, wc, K, L, M, X2, s2, o2, v2) → wX_root_16 post (nI n) wa wb wc K L M X2 s2 o2 v2 (d + 1) (nI i)) ∧
      (∀ (z : Int32) (K L M X R s v o fr tu kf kt pn : Nat → Int32), mx_T lv kd mn T n (-2) (mx_S s) (mx_V v) (mx_O o) → ∀ post : Int32 → SY → Prop, post a (z, (nI n), K, L, M, X, R, s, v, o, fr, tu, kf, kt, pn) → wY_root_12 post z (nI n) K L M X R s v o fr tu kf kt pn (d + 1) (nI i)) := by
  intro d
  induction d with
  | zero =>
    intro i h1 h3 _
    omega
  | succ d ih =>
    intro i h1 h3 h0
    have eY : (17 : Int32) * nI i + nI n - nI i = nI (17 * i + (n - i)) := by
      rw [my_17, pk_sub (by omega)]
      exact congrArg nI (by omega)
    have eX : nI i * (17 : Int32) + nI n - nI i = nI (17 * i + (n - i)) := by
      rw [mz_17, pk_sub (by omega)]
      exact congrArg nI (by omega)
    have cq : (nI (17 * i + (n - i))).toNatClampNeg = 17 * i + (n - i) := nI_clamp (by omega)
    have iq : vp_in (nI (17 * i + (n - i))) 289 := vp_in_nI (by omega) (by omega)
    have iY : vp_in ((17 : Int32) * nI i + nI n - nI i) 289 := by rw [eY]; exact iq
    have iX : vp_in (nI i * (17 : Int32) + nI n - nI i) 289 := by rw [eX]; exact iq
    have oY : ∀ o : Nat → Int32, (o ((17 : Int32) * nI i + nI n - nI i).toNatClampNeg).toInt = mx_O o i (n - i) := fun o => by rw [eY, cq]; rfl
    have oX : (o2 (nI i * (17 : Int32) + nI n - nI i).toNatClampNeg).toInt = mx_O o2 i (n - i) := by rw [eX, cq]; rfl
    have lX : ¬ nI n - nI i ≤ nI i := by
      rw [pk_sub (by omega)]
      exact nI_ge (by omega) (by omega)
    obtain ⟨_, cs⟩ := mx_vw h2 (by omega) h0
    rcases cs with ⟨a1, a2, a3, a4⟩ | ⟨hB, a3, a4, a5⟩ | ⟨r, hF, a3, a4⟩
    · refine ⟨-4, fun post hp => br_f lX ⟨iX, nm_e (br_t ((my_em1 oX).mpr a3) (nm_r (nI_1 i) (br_t ?_ hp)))⟩, fun z K L M X R s v o fr tu kf kt pn h post hp => ?_⟩
      · rw [pk_sub (by omega)]
        exact nI_le (by omega) (by omega)
      · have o3 := (mx_rdN h (by omega) a1 a2).2.1
        exact ⟨iY, my_if (my_em2 (oY o)) (fun c => by omega) (fun _ => ⟨iY, nm_e (my_if (my_le0 (oY o)) (fun c => by omega) (fun _ => hp))⟩)⟩
    · have e : n - i - 1 = n - (i + 1) := by omega
      have b3 := hB.2.2
      rw [e] at b3
      obtain ⟨a, hx, hy⟩ := ih (i + 1) (by omega) (by omega) b3
      refine ⟨a, fun post hp => br_f lX ⟨iX, nm_e (br_t ((my_em1 oX).mpr a3) (nm_r (nI_1 i) (hx post hp)))⟩, fun z K L M X R s v o fr tu kf kt pn h post hp => ?_⟩
      have hB' : mx_B T (mx_S s) i (n - i) := ⟨hB.1, hB.2.1, by rw [(mw_eq hk h2 h (by omega)).1]; exact hB.2.2⟩
      have o3 := (mx_rdB h (by omega) hB').2.1
      exact ⟨iY, br_t ((my_em2 (oY o)).mpr o3) (nm_r (nI_1 i) (hy z K L M X R s v o fr tu kf kt pn h post hp))⟩
    · have p2 := hF.2.1
      have rX := my_nI (oX.trans a3) (by omega)
      refine ⟨nI r, fun post hp => br_f lX ⟨iX, nm_r rX (br_f (fun c => ?_) hp)⟩, fun z K L M X R s v o fr tu kf kt pn h post hp => ?_⟩
      · have := (my_em1 (nI_toInt (n := r) (by omega))).mp c
        omega
      · have eqs := mw_eq hk h2 h (i := i) (j := n - i) (by omega)
        have o3 : mx_O o i (n - i) = (r : Int) := by
          rcases (eqs.2 (by rw [eqs.1]; exact h0)).2 with ⟨c1, c2⟩ | ⟨c1, c2⟩ | ⟨c1, c2⟩ <;> omega
        have rY := my_nI ((oY o).trans o3) (by omega)
        refine ⟨iY, br_f (fun c => ?_) ⟨iY, nm_r rY (br_t (nI_pos' (by omega)) hp)⟩⟩
        have := (my_em2 (oY o)).mp c
        omega
theorem mw_dY (h : mx_T lv kd mn T n (-2) (mx_S s) (mx_V v) (mx_O o)) (hn : n ≤ 16) {p : Nat} {m : Int32} {post : Int32 → SY → Prop} :
    ∀ d e i j q f t q', j ≤ n → 0 ≤ mx_S s i j → i ≤ p → p < j → mx_K lv kd T (mx_O o) p d i j q f t q' → e + d < 20 → post (nI (e + d)) (z, m, K, L, M, X, R, s, v, o, fr, tu, kf, kt, pn) → wY_depth_35 post (nI p) z m K L M X R s v o fr tu kf kt pn (d + 1) (nI i) (nI j) (nI e) (nI e) := by
  have key : ∀ i j, j ≤ n → 0 ≤ mx_S s i j → i ≤ p → p < j → i < j ∧ vp_in ((17 : Int32) * nI i + nI j) 289 ∧ o ((17 : Int32) * nI i + nI j).toNatClampNeg = o (17 * i + j) := by
    intro i j h1 h2 h3 h4
    refine ⟨by omega, ?_, ?_⟩
    · rw [my_17]
      exact vp_in_nI (by omega) (by omega)
    · rw [my_17, nI_clamp (by omega)]
  intro d
  induction d with
  | zero =>
    intro e i j q f t q' h1 h2 h3 h4 hK he hp
    obtain ⟨k1, _, _, _⟩ := hK
    obtain ⟨y1, y2, y3⟩ := key i j h1 h2 h3 h4
    have hp' : post (nI e) (z, m, K, L, M, X, R, s, v, o, fr, tu, kf, kt, pn) := hp
    obtain ⟨_, cs⟩ := mx_vw h h1 h2
    refine br_f (nI_ge (b := 20) (by omega) (by decide)) ⟨y2, nm_r y3 ?_⟩
    have oO : (o (17 * i + j)).toInt = mx_O o i j := rfl
    rcases cs with ⟨a1, a2, a3, a4⟩ | ⟨hB, a3, a4, a5⟩ | ⟨r, hF, a3, a4⟩
    · exact my_if (my_em2 oO) (fun c => by omega) (fun _ => br_t ((my_em1 oO).mpr a3) hp')
    · have e2 := (my_em2 oO).mpr a3
      have n1 : ¬ o (17 * i + j) = -1 := fun c => by
        have := (my_em1 oO).mp c
        omega
      have n2 : ¬ o (17 * i + j) = nI p := fun c => by
        rw [c, nI_toInt (by omega)] at oO
        omega
      refine br_t e2 (pk_eq p i (fun c => br_f n1 (br_f n2 (br_f (by decide) hp'))) (fun c => pk_eq p (j - 1) (fun c2 => br_f n1 (br_f n2 (br_f (by decide) hp'))) (fun c2 => ?_) rfl (pk_sub (b := 1) (by omega))))
      rw [mx_sB (by omega) c (by omega)] at k1
      cases k1
    · have e2 := my_nI (oO.trans a3) (by have := hF.2.1; omega)
      have e3 : p = r := by
        by_cases c1 : p < r
        · rw [mx_sL a3 c1] at k1
          cases k1
        · by_cases c2 : p = r
          · exact c2
          · rw [mx_sR a3 (by omega)] at k1
            cases k1
      have n1 : ¬ o (17 * i + j) = -1 := fun c => by
        have := (my_em1 oO).mp c
        omega
      refine my_if (my_em2 oO) (fun c => by omega) (fun _ => br_f n1 (br_t ?_ hp'))
      rw [e2, e3]
  | succ d ih =>
    intro e i j q f t q' h1 h2 h3 h4 hK he hp
    obtain ⟨i', j', m', hs, hK⟩ := hK
    obtain ⟨b1, b2, b3, b4, b5, b6, b7⟩ := mx_pg h (by decide) h1 h2 h3 h4 hs
    obtain ⟨y1, y2, y3⟩ := key i j h1 h2 h3 h4
    have hp' : post (nI (e + 1 + d)) (z, m, K, L, M, X, R, s, v, o, fr, tu, kf, kt, pn) := by
      have e1 : e + 1 + d = e + (d + 1) := by omega
      rw [e1]
      exact hp
    have go := ih (e + 1) i' j' m' f t q' (by omega) (by omega) b3 b4 hK (by omega) hp'
    obtain ⟨_, cs⟩ := mx_vw h h1 h2
    refine br_f (nI_ge (b := 20) (by omega) (by decide)) ⟨y2, nm_r y3 ?_⟩
    have oO : (o (17 * i + j)).toInt = mx_O o i j := rfl
    rcases cs with ⟨a1, a2, a3, a4⟩ | ⟨hB, a3, a4, a5⟩ | ⟨r, hF, a3, a4⟩
    · rw [mx_sN (by omega) (by omega)] at hs
      cases hs
    · have e2 := (my_em2 oO).mpr a3
      have n1 : ¬ o (17 * i + j) = -1 := fun c => by
        have := (my_em1 oO).mp c
        omega
      have n2 : ¬ o (17 * i + j) = nI p := fun c => by
        rw [c, nI_toInt (by omega)] at oO
        omega
      by_cases c : p = i ∨ p + 1 = j
      · rw [mx_sN (by omega) c] at hs
        cases hs
      · rw [mx_sB (by omega) (by omega) (by omega)] at hs
        obtain ⟨rfl, rfl, rfl⟩ := mx_s3 hs
        refine br_t e2 (pk_eq p i (fun c1 => by omega) (fun c1 => pk_eq p (j - 1) (fun c2 => by omega) (fun c2 => ?_) rfl (pk_sub (b := 1) (by omega))))
        exact br_f n1 (br_f n2 (br_t rfl (nm_r (nI_1 e) (br_t e2 (nm_r (nI_1 i) (nm_r (sb_m1 (by omega)) (nm_r (nI_1 e) go)))))))
    · have p2 := hF.2.1
      have e2 := my_nI (oO.trans a3) (by omega)
      have n1 : ¬ o (17 * i + j) = -1 := fun c => by
        have := (my_em1 oO).mp c
        omega
      have n22 : ¬ o (17 * i + j) = -2 := fun c => by
        have := (my_em2 oO).mp c
        omega
      have n3 : p ≠ r → ¬ o (17 * i + j) = nI p := fun hpr c => by
        rw [e2] at c
        have := (nI_eq (by omega) (by omega)).mp c
        omega
      refine br_f n22 ?_
      by_cases c1 : p < r
      · rw [mx_sL a3 c1] at hs
        obtain ⟨rfl, rfl, rfl⟩ := mx_s3 hs
        refine br_f n1 (br_f (n3 (by omega)) (br_t rfl (nm_r (nI_1 e) (br_f n22 (br_f ?_ (nm_r (nI_1 e) ?_))))))
        · rw [e2]
          exact nI_ge c1 (by omega)
        · rw [e2]
          exact go
      · by_cases c2 : p = r
        · rw [c2, mx_sE a3] at hs
          cases hs
        · rw [mx_sR a3 (by omega)] at hs
          obtain ⟨rfl, rfl, rfl⟩ := mx_s3 hs
          refine br_f n1 (br_f (n3 c2) (br_t rfl (nm_r (nI_1 e) (br_f n22 (br_t ?_ (nm_r (e' := nI (r + 1)) ?_ (nm_r (nI_1 e) go)))))))
          · rw [e2]
            exact nI_le (by omega) (by omega)
          · rw [e2, nI_1]
end
section
variable {z : Int32} {K L M X : Nat → Int32} {lv kd : Nat → Nat} {mn : Nat → Int32} {T : Nat → Nat} {n : Nat} {s v o : Nat → Int32}
theorem mw_sd (hG : mx_G lv kd mn K L M) (h : mx_T lv kd mn T n (-1) (mx_S s) (mx_V v) (mx_O o)) (hn : n ≤ 16) (hA : mx_A X T n) {p i j : Nat} {wc : Int32} {post : Int32 → SX → Prop} (h1 : j ≤ n) (h2 : 0 ≤ mx_S s i j) (h3 : i ≤ p) (h4 : p < j)
    (Hn : mx_s lv kd T (mx_O o) p i j = none → post 0 (z, (nI i), (nI j), wc, K, L, M, X, s, o, v))
    (Hs : ∀ i' j' m' w', mx_s lv kd T (mx_O o) p i j = some (i', j', m') → w'.toInt = m' → post 1 (z, (nI i'), (nI j'), w', K, L, M, X, s, o, v)) : wpX_stepDown post (z, (nI i), (nI j), wc, K, L, M, X, s, o, v) (nI p) := by
  have iq : vp_in (nI i * (17 : Int32) + nI j) 289 := by
    rw [mz_17]
    exact vp_in_nI (by omega) (by omega)
  have eq : o (nI i * (17 : Int32) + nI j).toNatClampNeg = o (17 * i + j) := by rw [mz_17, nI_clamp (by omega)]
  have oO : (o (17 * i + j)).toInt = mx_O o i j := rfl
  have br : mx_O o i j < 0 → wpX_stepIntoBrackets (fun r u => match u with | (z9, wa9, wb9, wc9, K9, L9, M9, X9, s9, o9, v9) => (narrow .boolean (.int r) = .int r ∧ (post r (z9, wa9, wb9, wc9, K9, L9, M9, X9, s9, o9, v9)))) (z, (nI i), (nI j), wc, K, L, M, X, s, o, v) (nI p) := by
    intro hO
    refine pk_eq p i (fun c => ⟨rfl, Hn (mx_sN hO (Or.inl c))⟩) (fun c => pk_eq p (j - 1) (fun c2 => ⟨rfl, Hn (mx_sN hO (Or.inr (by omega)))⟩) (fun c2 => ?_) rfl (pk_sub (b := 1) (by omega)))
    exact nm_r (nI_1 i) (nm_r (e' := nI (j - 1)) (pk_sub (b := 1) (by omega)) ⟨rfl, Hs (i + 1) (j - 1) 0 0 (mx_sB hO c (by omega)) (by decide)⟩)
  refine ⟨iq, nm_r eq ?_⟩
  obtain ⟨_, cs⟩ := mx_vw h h1 h2
  rcases cs with ⟨a1, a2, a3, a4⟩ | ⟨hB, a3, a4, a5⟩ | ⟨r, hF, a3, a4⟩
  · exact br_t ((my_em1 oO).mpr a3) (br (by omega))
  · exact br_t ((my_em1 oO).mpr a3) (br (by omega))
  · obtain ⟨p1, p2, p3, p4, _, _⟩ := hF
    have hG' := hG
    obtain ⟨g1, g2, g3, g4, g5⟩ := hG
    have l5 := g2 (T r)
    have e2 := my_nI (oO.trans a3) (by omega)
    rw [e2]
    have e10 : X (nI r).toNatClampNeg - 10 = nI (T r - 10) := by
      rw [nI_clamp (by omega), hA.1 r (by omega)]
      exact pk_sub (b := 10) p3
    have eL : L (X (nI r).toNatClampNeg - 10).toNatClampNeg = nI (lv (T r)) := by
      rw [e10, nI_clamp (by omega)]
      exact g4 _ p3 p4
    refine br_f (fun c => ?_) (pk_eq p r (fun c => Hn (by rw [c]; exact mx_sE a3)) (fun c => ⟨vp_in_nI (by omega) (by omega), by rw [e10]; exact vp_in_nI (by omega) (by omega), nm_r eL (pk_le r p (fun c2 => ?_) (fun c2 => ?_))⟩))
    · have := (my_em1 (nI_toInt (n := r) (by omega))).mp c
      omega
    · exact nm_r (nI_1 r) (mz_n2 hG' l5 (fun w' hw => Hs (r + 1) j _ w' (mx_sR a3 (by omega)) hw))
    · exact mz_n1 hG' l5 (fun w' hw => Hs i r _ w' (mx_sL a3 c2) hw)
theorem mw_wX (hG : mx_G lv kd mn K L M) (h : mx_T lv kd mn T n (-1) (mx_S s) (mx_V v) (mx_O o)) (hn : n ≤ 16) (hA : mx_A X T n) {p f t : Nat} {q : Int} {post : Int32 → SX → Prop} :
    ∀ d e i j m wc, j ≤ n → 0 ≤ mx_S s i j → i ≤ p → p < j → wc.toInt = m → mx_K lv kd T (mx_O o) p d i j m f t q → e + d < 16 →
      (∀ w' : Int32, w'.toInt = q → post (nI (e + d)) (z, (nI f), (nI t), w', K, L, M, X, s, o, v)) → wX_walkDown_20 post (nI p) (d + 1) (nI e) z (nI i) (nI j) wc K L M X s o v := by
  intro d
  induction d with
  | zero =>
    intro e i j m wc h1 h2 h3 h4 hw hK he H
    obtain ⟨k1, k2, k3, k4⟩ := hK
    refine br_f (nI_ge (b := 16) (by omega) (by decide)) (mw_sd hG h hn hA h1 h2 h3 h4 (fun _ => br_t rfl ?_) (fun i' j' m' w' hs _ => ?_))
    · rw [k2, k3] at H
      exact H wc (hw.trans k4.symm)
    · rw [k1] at hs
      cases hs
  | succ d ih =>
    intro e i j m wc h1 h2 h3 h4 hw hK he H
    obtain ⟨i2, j2, m2, hs2, hK⟩ := hK
    refine br_f (nI_ge (b := 16) (by omega) (by decide)) (mw_sd hG h hn hA h1 h2 h3 h4 (fun hs => ?_) (fun i' j' m' w' hs hw' => br_f (by decide) (nm_r (nI_1 e) ?_)))
    · rw [hs2] at hs
      cases hs
    · rw [hs2] at hs
      cases hs
      obtain ⟨b1, b2, b3, b4, b5, b6, b7⟩ := mx_pg h (by decide) h1 h2 h3 h4 hs2
      refine ih (e + 1) i2 j2 m2 w' (by omega) (by omega) b3 b4 hw' hK (by omega) ?_
      have e1 : e + 1 + d = e + (d + 1) := by omega
      rw [e1]
      exact H
theorem mw_wd (hG : mx_G lv kd mn K L M) (h : mx_T lv kd mn T n (-1) (mx_S s) (mx_V v) (mx_O o)) (hn : n ≤ 16) (hA : mx_A X T n) {p d f t : Nat} {q : Int} {wa wb wc : Int32} {post : Int32 → SX → Prop} (h0 : 0 ≤ mx_S s 0 n) (hp : p < n)
    (hK : mx_K lv kd T (mx_O o) p d 0 n 0 f t q) (H : ∀ w' : Int32, w'.toInt = q → post (nI d) ((nI n), (nI f), (nI t), w', K, L, M, X, s, o, v)) : wpX_walkDown post ((nI n), wa, wb, wc, K, L, M, X, s, o, v) (nI p) := by
  have hd := (mx_Kf h (by decide) d 0 n 0 f t q (Nat.le_refl _) h0 (Nat.zero_le _) hp h0 (Int.le_refl _) hK)
  refine ⟨d + 1, mw_wX hG h hn hA d 0 0 n 0 0 (Nat.le_refl _) h0 (Nat.zero_le _) hp (by decide) hK (by omega) ?_⟩
  rw [Nat.zero_add]
  exact H
end
end
section
/-! the reference's spare -/
theorem mx_IF0 {lv kd T : Nat → Nat} {n : Nat} {S O : Nat → Nat → Int} {fr tu : Nat → Int32} {l : List (Nat × Nat)} {i j r : Nat} (hI : mx_I lv kd T n S O fr tu ((i, j) :: l)) (hF : mx_F lv kd T S i r j) (ho : O i j = (r : Int))
    (c1 : ¬ i < r) (c2 : ¬ r + 1 < j) : mx_I lv kd T n S O (upd fr r (nI i)) (upd tu r (nI j)) l :=
  mx_IF hI hF ho (fun e he => Or.inl he) (fun e he => he) (fun c => absurd c c1) (fun c => absurd c c2)
theorem mx_IF1 {lv kd T : Nat → Nat} {n : Nat} {S O : Nat → Nat → Int} {fr tu : Nat → Int32} {l : List (Nat × Nat)} {i j r : Nat} (hI : mx_I lv kd T n S O fr tu ((i, j) :: l)) (hF : mx_F lv kd T S i r j) (ho : O i j = (r : Int))
    (c1 : i < r) (c2 : ¬ r + 1 < j) : mx_I lv kd T n S O (upd fr r (nI i)) (upd tu r (nI j)) ((i, r) :: l) := by
  refine mx_IF hI hF ho (fun e he => ?_) (fun e he => List.mem_cons_of_mem _ he) (fun _ => List.mem_cons_self ..) (fun c => absurd c c2)
  rcases List.mem_cons.mp he with c | c
  · exact Or.inr (Or.inl ⟨c, c1⟩)
  · exact Or.inl c
theorem mx_IF2 {lv kd T : Nat → Nat} {n : Nat} {S O : Nat → Nat → Int} {fr tu : Nat → Int32} {l : List (Nat × Nat)} {i j r : Nat} (hI : mx_I lv kd T n S O fr tu ((i, j) :: l)) (hF : mx_F lv kd T S i r j) (ho : O i j = (r : Int))
    (c1 : ¬ i < r) (c2 : r + 1 < j) : mx_I lv kd T n S O (upd fr r (nI i)) (upd tu r (nI j)) ((r + 1, j) :: l) := by
  refine mx_IF hI hF ho (fun e he => ?_) (fun e he => List.mem_cons_of_mem _ he) (fun c => absurd c c1) (fun _ => List.mem_cons_self ..)
  rcases List.mem_cons.mp he with c | c
  · exact Or.inr (Or.inr ⟨c, c2⟩)
  · exact Or.inl c
theorem mx_IF3 {lv kd T : Nat → Nat} {n : Nat} {S O : Nat → Nat → Int} {fr tu : Nat → Int32} {l : List (Nat × Nat)} {i j r : Nat} (hI : mx_I lv kd T n S O fr tu ((i, j) :: l)) (hF : mx_F lv kd T S i r j) (ho : O i j = (r : Int))
    (c1 : i < r) (c2 : r + 1 < j) : mx_I lv kd T n S O (upd fr r (nI i)) (upd tu r (nI j)) ((r + 1, j) :: (i, r) :: l) := by
  refine mx_IF hI hF ho (fun e he => ?_) (fun e he => List.mem_cons_of_mem _ (List.mem_cons_of_mem _ he)) (fun _ => List.mem_cons_of_mem _ (List.mem_cons_self ..)) (fun _ => List.mem_cons_self ..)
  rcases List.mem_cons.mp he with c | c
  · exact Or.inr (Or.inr ⟨c, c2⟩)
  · rcases List.mem_cons.mp c with c | c
    · exact Or.inr (Or.inl ⟨c, c1⟩)
    · exact Or.inl c
section
variable {z m : Int32} {K L M X R kf kt : Nat → Int32} {lv kd : Nat → Nat} {mn : Nat → Int32} {T : Nat → Nat} {n : Nat} {s v o : Nat → Int32}
theorem mf_12 (h : mx_T lv kd mn T n (-2) (mx_S s) (mx_V v) (mx_O o)) (hn : n ≤ 16) {post : SY → Prop}
    (H : ∀ fr tu pn, mx_I lv kd T n (mx_S s) (mx_O o) fr tu [] → post (z, m, K, L, M, X, R, s, v, o, fr, tu, kf, kt, pn)) :
    ∀ w l fr tu pn, mx_Z l ≤ w → mx_Z l ≤ 16 → mx_I lv kd T n (mx_S s) (mx_O o) fr tu l → mx_L pn l → wY_findStretches_12 post z m (w + 1) (nI l.length) K L M X R s v o fr tu kf kt pn := by
  intro w
  induction w with
  | zero =>
    intro l fr tu pn hz h16 hI hL
    cases l with
    | nil => exact br_t (by decide) (H fr tu pn hI)
    | cons e l =>
      have t1 := (hI.1 e (List.mem_cons_self ..)).1
      have hz' : (e.2 - e.1) + mx_Z l ≤ 0 := hz
      omega
  | succ w ih =>
    intro l fr tu pn hz h16 hI hL
    cases l with
    | nil => exact br_t (by decide) (H fr tu pn hI)
    | cons e l =>
      obtain ⟨i, j⟩ := e
      obtain ⟨t1', t2', t3', _⟩ := hI.1 (i, j) (List.mem_cons_self ..)
      have t1 : i < j := t1'
      have t2 : j ≤ n := t2'
      have t3 : 0 ≤ mx_S s i j := t3'
      have hz' : (j - i) + mx_Z l ≤ w + 1 := hz
      have h16' : (j - i) + mx_Z l ≤ 16 := h16
      have hl : l.length ≤ mx_Z l := mx_Il (fun e he => (hI.1 e (List.mem_cons_of_mem _ he)).1)
      obtain ⟨hL1, hL2⟩ := hL
      have hL1' : pn l.length = nI (17 * i + j) := hL1
      have cl : (nI l.length).toNatClampNeg = l.length := nI_clamp (by omega)
      have i40 : vp_in (nI l.length) 40 := vp_in_nI (by omega) (by omega)
      have dv : pn (nI l.length).toNatClampNeg / 17 = nI i := by
        rw [cl, hL1']
        show nI (17 * i + j) / nI 17 = nI i
        rw [pk_div (by omega) (by omega) (by omega)]
        exact congrArg nI (by omega)
      have rm : pn (nI l.length).toNatClampNeg - pn (nI l.length).toNatClampNeg / 17 * 17 = nI j := by
        rw [cl, hL1']
        show nI (17 * i + j) - nI (17 * i + j) / nI 17 * nI 17 = nI j
        rw [pk_rem (by omega) (by omega) (by omega)]
        exact congrArg nI (by omega)
      have iq : vp_in ((17 : Int32) * nI i + nI j) 289 := by
        rw [my_17]
        exact vp_in_nI (by omega) (by omega)
      have eo : o ((17 : Int32) * nI i + nI j).toNatClampNeg = o (17 * i + j) := by rw [my_17, nI_clamp (by omega)]
      have oO : (o (17 * i + j)).toInt = mx_O o i j := rfl
      refine br_f (nI_nle (n := l.length + 1) (by omega) (by omega)) (nm_r (pk_m1 l.length) ⟨i40, by decide, nm_r dv ⟨i40, by decide, nm_r rm ⟨iq, nm_r eo ?_⟩⟩⟩)
      obtain ⟨_, cs⟩ := mx_vw h t2 t3
      rcases cs with ⟨a1, a2, a3, a4⟩ | ⟨hB, a3, a4, a5⟩ | ⟨r, hF, a3, a4⟩
      · exact my_if (my_em2 oO) (fun c => by omega) (fun _ => br_t ((my_lt0 oO).mpr (by omega)) (ih l fr tu pn (by omega) (by omega) (mx_IN h hI a1 a2) hL2))
      · have e3 : ((17 : Int32) * nI i + 17 + nI j) - 1 = nI (17 * (i + 1) + (j - 1)) := by
          rw [my_17b i j]
          exact (pk_sub (b := 1) (by omega)).trans (congrArg nI (by omega))
        refine br_t ((my_em2 oO).mpr a3) ⟨i40, nm_r (e' := upd pn l.length (nI (17 * (i + 1) + (j - 1)))) (by rw [cl, e3]) (nm_r (nI_1 l.length) (ih ((i + 1, j - 1) :: l) fr tu _ ?_ ?_ (mx_IB h (by decide) hI hB a3) (mx_Lp hL2)))⟩
        · show (j - 1 - (i + 1)) + mx_Z l ≤ w
          omega
        · show (j - 1 - (i + 1)) + mx_Z l ≤ 16
          omega
      · have p1 := hF.1
        have p2 := hF.2.1
        have e2 := my_nI (oO.trans a3) (by omega)
        have cr : (nI r).toNatClampNeg = r := nI_clamp (by omega)
        have ir : vp_in (nI r) 16 := vp_in_nI (by omega) (by omega)
        have eb := my_17b r j
        have ea := my_17 i r
        rw [e2]
        refine br_f (fun c => ?_) (br_f (nI_pos (by omega)) ⟨ir, nm_r (e' := upd fr r (nI i)) (by rw [cr]) ⟨ir, nm_r (e' := upd tu r (nI j)) (by rw [cr]) (pk_le r i (fun c => ?_) (fun c => ?_))⟩⟩)
        · have := (my_em2 (nI_toInt (n := r) (by omega))).mp c
          omega
        · refine my_if (d := j ≤ r + 1) (by rw [nI_1]; exact nI_leI (by omega) (by omega)) (fun c2 => ?_) (fun c2 => ⟨i40, nm_r (e' := upd pn l.length (nI (17 * (r + 1) + j))) (by rw [cl, eb]) (nm_r (nI_1 l.length) ?_)⟩)
          · exact ih l _ _ pn (by omega) (by omega) (mx_IF0 hI hF a3 (by omega) (by omega)) hL2
          · refine ih ((r + 1, j) :: l) _ _ _ ?_ ?_ (mx_IF2 hI hF a3 (by omega) (by omega)) (mx_Lp hL2)
            · show (j - (r + 1)) + mx_Z l ≤ w
              omega
            · show (j - (r + 1)) + mx_Z l ≤ 16
              omega
        · refine ⟨i40, nm_r (e' := upd pn l.length (nI (17 * i + r))) (by rw [cl, ea]) (nm_r (nI_1 l.length) ?_)⟩
          have cl1 : (nI (l.length + 1)).toNatClampNeg = l.length + 1 := nI_clamp (by omega)
          refine my_if (d := j ≤ r + 1) (by rw [nI_1 r]; exact nI_leI (by omega) (by omega)) (fun c2 => ?_) (fun c2 => ⟨vp_in_nI (by omega) (by omega), nm_r (e' := upd (upd pn l.length (nI (17 * i + r))) (l.length + 1) (nI (17 * (r + 1) + j))) (by rw [cl1, eb]) (nm_r (nI_1 (l.length + 1)) ?_)⟩)
          · refine ih ((i, r) :: l) _ _ _ ?_ ?_ (mx_IF1 hI hF a3 (by omega) (by omega)) (mx_Lp hL2)
            · show (r - i) + mx_Z l ≤ w
              omega
            · show (r - i) + mx_Z l ≤ 16
              omega
          · refine ih ((r + 1, j) :: (i, r) :: l) _ _ _ ?_ ?_ (mx_IF3 hI hF a3 (by omega) (by omega)) (mx_Lp (l := (i, r) :: l) (mx_Lp hL2))
            · show (j - (r + 1)) + ((r - i) + mx_Z l) ≤ w
              omega
            · show (j - (r + 1)) + ((r - i) + mx_Z l) ≤ 16
              omega
theorem mf_fs (h : mx_T lv kd mn T n (-2) (mx_S s) (mx_V v) (mx_O o)) (hn : n ≤ 16) {post : SY → Prop} {fr tu pn : Nat → Int32} (h0 : 0 ≤ mx_S s 0 n)
    (H : ∀ fr tu pn, (∀ x f t, x < n → 10 ≤ T x → T x < 18 → mx_N lv kd T (mx_O o) x 0 n f t → fr x = nI f ∧ tu x = nI t) → post (z, (nI n), K, L, M, X, R, s, v, o, fr, tu, kf, kt, pn)) : wpY_findStretches post (z, (nI n), K, L, M, X, R, s, v, o, fr, tu, kf, kt, pn) := by
  have np := mx_ps h h0
  refine nm_e ⟨n + 1, mf_12 h hn (fun fr tu pn hI => H fr tu pn (fun x f t h1 h2 h3 hN => ?_)) n [(0, n)] fr tu _ ?_ ?_ (mx_I0 h0 np) ⟨?_, trivial⟩⟩
  · rcases hI.2 x h1 h2 h3 with ⟨e, he, _⟩ | c
    · cases he
    · exact c f t hN
  · show (n - 0) + 0 ≤ n
    omega
  · show (n - 0) + 0 ≤ 16
    omega
  · show upd pn 0 (nI n) 0 = nI (17 * 0 + n)
    rw [pk_us]
    exact congrArg nI (by omega)
end
section
variable {z m : Int32} {K L M X R s v o fr tu kf kt pn : Nat → Int32} {lv kd : Nat → Nat} {mn : Nat → Int32} {T : Nat → Nat} {n p g : Nat}
theorem mf_p4 {S : Nat → Nat → Int} (hn : n ≤ 15) (hA : mx_A X T n) (hg : g < n) (hpg : p < g) (h18 : T p = 18) (h19 : T g = 19) (hD : mx_D lv T S (p + 1) g) {post : Int32 → Prop} (H : post (nI g)) :
    ∀ (d q e : Nat), q + d = g → p < q → (e : Int) = mx_b T q - mx_b T p → wY_partner_4 post (nI n) m K L M X R s v o fr tu kf kt pn (d + 1) (nI e) (nI q) := by
  obtain ⟨d1, d2, _⟩ := hD
  have e1 : mx_b T (p + 1) = mx_b T p + 1 := by rw [mx_b1, h18, mx_w18]
  have rd : ∀ q, q < n → X (nI q).toNatClampNeg = nI (T q) := fun q hq => by rw [nI_clamp (by omega)]; exact hA.1 q hq
  intro d
  induction d with
  | zero =>
    intro q e hq hp he
    have eq : q = g := by omega
    subst eq
    have e0 : e = 1 := by omega
    subst e0
    have hq := rd q hg
    refine br_f (nI_ge (by omega) (by omega)) ⟨vp_in_nI (by omega) (by omega), br_f ?_ ⟨vp_in_nI (by omega) (by omega), br_t ?_ (br_t (by decide) H)⟩⟩
    · rw [hq, h19]
      decide
    · rw [hq, h19]
      rfl
  | succ d ih =>
    intro q e hq hp he
    have hr := rd q (by omega)
    have hT := hA.2 q
    have lo := d2 (q + 1) (by omega) (by omega)
    have lo0 := d2 q (by omega) (by omega)
    have eb := mx_b1 T q
    have iq : vp_in (nI q) 15 := vp_in_nI (by omega) (by omega)
    have b40 : ∀ x, x ≤ 16 → mx_b T x ≤ mx_b T 0 + x ∧ mx_b T 0 - x ≤ mx_b T x := by
      intro x
      induction x with
      | zero => intro _; omega
      | succ x ihx =>
        intro hx
        have h1 := ihx (by omega)
        have h2 := mx_b1 T x
        have h3 : mx_w (T x) ≤ 1 ∧ -1 ≤ mx_w (T x) := by
          unfold mx_w
          split
          · omega
          · split <;> omega
        omega
    have b1 := b40 q (by omega)
    have b2 := b40 p (by omega)
    refine br_f (nI_ge (by omega) (by omega)) ⟨iq, my_if (d := T q = 18) (by rw [hr]; exact nI_eq (b := 18) (by omega) (by decide)) (fun c => ?_) (fun c => ⟨iq, my_if (d := T q = 19) (by rw [hr]; exact nI_eq (b := 19) (by omega) (by decide)) (fun c2 => ?_) (fun c2 => ?_)⟩)⟩
    · rw [c, mx_w18] at eb
      rw [nI_1 e]
      exact br_f (nI_ne0 (by omega) (by omega)) (nm_r (nI_1 q) (ih (q + 1) (e + 1) (by omega) (by omega) (by omega)))
    · rw [c2, mx_w19] at eb
      have es : nI e - 1 = nI (e - 1) := pk_sub (b := 1) (by omega)
      rw [es]
      exact br_f (nI_ne0 (by omega) (by omega)) (nm_r (nI_1 q) (ih (q + 1) (e - 1) (by omega) (by omega) (by omega)))
    · rw [mx_w0 (by omega)] at eb
      exact br_f (nI_ne0 (by omega) (by omega)) (nm_r (nI_1 q) (ih (q + 1) e (by omega) (by omega) (by omega)))
theorem mf_pt {S : Nat → Nat → Int} (hn : n ≤ 15) (hA : mx_A X T n) (hg : g < n) (hpg : p < g) (h18 : T p = 18) (h19 : T g = 19) (hD : mx_D lv T S (p + 1) g) {post : Int32 → Prop} (H : post (nI g)) : wpY_partner post ((nI n), m, K, L, M, X, R, s, v, o, fr, tu, kf, kt, pn) (nI p) := by
  have e1 : mx_b T (p + 1) = mx_b T p + 1 := by rw [mx_b1, h18, mx_w18]
  have hr : X (nI p).toNatClampNeg = nI (T p) := by rw [nI_clamp (by omega)]; exact hA.1 p (by omega)
  refine ⟨(g - (p + 1)) + 1 + 1, br_f (nI_ge (by omega) (by omega)) ⟨vp_in_nI (by omega) (by omega), br_t ?_ (br_f (by decide) (nm_r (nI_1 p) ?_))⟩⟩
  · rw [hr, h18]
    rfl
  · exact mf_p4 hn hA hg hpg h18 h19 hD H (g - (p + 1)) (p + 1) 1 (by omega) (by omega) (by omega)
theorem mf_wo {post : Int32 → Prop} {y : Int32} {x : Nat} (hy : y = nI x) (hpg : p < g) (hg : g < 100) (hx : x < 100) (h : post (nI (mx_o p g x))) : wpY_without post (z, m, K, L, M, X, R, s, v, o, fr, tu, kf, kt, pn) y (nI p) (nI g) := by
  subst hy
  have e1 : nI x - 0 - 0 = nI x := by rw [Int32.sub_zero, Int32.sub_zero]
  refine pk_le x p (fun c => pk_le x g (fun c2 => ?_) (fun c2 => by omega)) (fun c => pk_le x g (fun c2 => ?_) (fun c2 => ?_))
  · rw [e1]
    rw [mx_o1 hpg c] at h
    exact h
  · have e2 : nI x - 1 - 0 = nI (x - 1) := by
      rw [Int32.sub_zero]
      exact pk_sub (b := 1) (by omega)
    rw [e2]
    rw [mx_o2 c c2] at h
    exact h
  · have e3 : nI x - 1 - 1 = nI (x - 2) := by
      have e4 : nI x - 1 = nI (x - 1) := pk_sub (b := 1) (by omega)
      rw [e4]
      exact (pk_sub (b := 1) (by omega)).trans (congrArg nI (by omega))
    rw [e3]
    rw [mx_o3 hpg c2] at h
    exact h
theorem mf_77 (hn : n ≤ 15) (hA : mx_A X T n) (hpg : p < g) (hg : g < n) {post : Int32 → SY → Prop} {C : Nat → Prop}
    (HC : ∀ x, x < n → 10 ≤ T x → T x < 18 → ∃ F G f' t', kf x = nI F ∧ kt x = nI G ∧ fr (mx_o p g x) = nI f' ∧ tu (mx_o p g x) = nI t' ∧ F < 100 ∧ G < 100 ∧ f' < 100 ∧ t' < 100 ∧ (C x ↔ (f' = mx_o p g F ∧ t' = mx_o p g G)))
    (Hy : (∀ x, x < n → 10 ≤ T x → T x < 18 → C x) → post 1 ((nI n), m, K, L, M, X, R, s, v, o, fr, tu, kf, kt, pn)) (Hn : ¬ (∀ x, x < n → 10 ≤ T x → T x < 18 → C x) → post 0 ((nI n), m, K, L, M, X, R, s, v, o, fr, tu, kf, kt, pn)) :
    ∀ d x, x + d = n → (∀ y, y < x → 10 ≤ T y → T y < 18 → C y) → wY_isSpare_77 post (nI p) (nI g) (nI n) m K L M X R s v o fr tu kf kt pn (d + 1) (nI x) := by
  have ob : ∀ x, mx_o p g x ≤ x := fun x => Nat.le_trans (Nat.sub_le _ _) (Nat.sub_le _ _)
  intro d
  induction d with
  | zero =>
    intro x hx hb
    have e : x = n := by omega
    subst e
    exact br_t (nI_le (by omega) (by omega)) (Hy hb)
  | succ d ih =>
    intro x hx hb
    have hr : X (nI x).toNatClampNeg = nI (T x) := by rw [nI_clamp (by omega)]; exact hA.1 x (by omega)
    have hT := hA.2 x
    have i15 : vp_in (nI x) 15 := vp_in_nI (by omega) (by omega)
    have i16 : vp_in (nI x) 16 := vp_in_nI (by omega) (by omega)
    have ox := ob x
    have io : vp_in (nI (mx_o p g x)) 16 := vp_in_nI (by omega) (by omega)
    have co : (nI (mx_o p g x)).toNatClampNeg = mx_o p g x := nI_clamp (by omega)
    have cx : (nI x).toNatClampNeg = x := nI_clamp (by omega)
    have nx : (10 ≤ T x → T x < 18 → C x) → wY_isSpare_77 post (nI p) (nI g) (nI n) m K L M X R s v o fr tu kf kt pn (d + 1) (nI (x + 1)) := by
      intro hc
      refine ih (x + 1) (by omega) (fun y hy => ?_)
      by_cases e : y = x
      · rw [e]
        exact hc
      · exact hb y (by omega)
    refine br_f (nI_ge (by omega) (by omega)) (mf_wo rfl hpg (by omega) (by omega) ⟨i15, my_if (d := T x ≤ 9) (by rw [hr]; exact nI_leI (b := 9) (by omega) (by decide)) (fun c => br_t rfl (nm_r (nI_1 x) (nx (fun c3 _ => by omega)))) (fun c => ⟨i15, my_if (d := 18 ≤ T x) (by rw [hr]; exact nI_leI (a := 18) (by decide) (by omega)) (fun c2 => br_t rfl (nm_r (nI_1 x) (nx (fun _ c3 => by omega)))) (fun c2 => br_f (by decide) ?_)⟩)⟩)
    obtain ⟨F, G, f', t', q1, q2, q3, q4, q5, q6, q7, q8, q9⟩ := HC x (by omega) (by omega) (by omega)
    have oF := ob F
    have oG := ob G
    refine ⟨io, i16, mf_wo (x := F) (by rw [cx]; exact q1) hpg (by omega) q5 (my_if (d := f' = mx_o p g F) (by rw [co, q3]; exact nI_eq (by omega) (by omega)) (fun c3 => ⟨io, i16, mf_wo (x := G) (by rw [cx]; exact q2) hpg (by omega) q6 (my_if (d := t' = mx_o p g G) (by rw [co, q4]; exact nI_eq (by omega) (by omega)) (fun c4 => nm_r (nI_1 x) (nx (fun _ _ => q9.mpr ⟨c3, c4⟩))) (fun c4 => Hn (fun hall => c4 ?_)))⟩) (fun c3 => Hn (fun hall => c3 ?_)))⟩
    · exact (q9.mp (hall x (by omega) (by omega) (by omega))).2
    · exact (q9.mp (hall x (by omega) (by omega) (by omega))).1
end
def mx_q (T : Nat → Nat) (p g : Nat) (y : Nat) : Nat := if y < p then T y else if y < g - 1 then T (y + 1) else T (y + 2)
theorem mx_qQ {T : Nat → Nat} {p g n : Nat} (h1 : p + 1 < g) (h2 : g < n) : mx_Q T (mx_q T p g) p g n := by
  refine ⟨h1, h2, fun x hx => if_pos hx, fun x hx hy => ?_, fun x hx hy => ?_⟩
  · unfold mx_q
    rw [if_neg (by omega), if_pos hy]
  · unfold mx_q
    rw [if_neg (by omega), if_neg (by omega)]
theorem mx_q20 {T : Nat → Nat} {p g : Nat} (h : ∀ j, T j < 20) (y : Nat) : mx_q T p g y < 20 := by
  unfold mx_q
  split
  · exact h _
  · split
    · exact h _
    · exact h _
end
section
/-! spare and endings: both sides count the same -/
noncomputable def mx_cn (Q : Nat → Prop) : Nat → Nat
  | 0 => 0
  | n + 1 => mx_cn Q n + @ite Nat (Q n) (Classical.propDecidable (Q n)) 1 0
theorem mx_cn1 {Q : Nat → Prop} {n : Nat} (h : Q n) : mx_cn Q (n + 1) = mx_cn Q n + 1 := by
  show mx_cn Q n + @ite Nat (Q n) (Classical.propDecidable (Q n)) 1 0 = _
  rw [if_pos h]
theorem mx_cn0 {Q : Nat → Prop} {n : Nat} (h : ¬ Q n) : mx_cn Q (n + 1) = mx_cn Q n := by
  show mx_cn Q n + @ite Nat (Q n) (Classical.propDecidable (Q n)) 1 0 = _
  rw [if_neg h]
  rfl
theorem mx_os {p g i : Nat} (hpg : p < g) (h1 : i ≠ p) (h2 : i ≠ g) : mx_o p g (i + 1) = mx_o p g i + 1 := by
  unfold mx_o
  (repeat' split) <;> omega
theorem mx_osp {p g i : Nat} (hpg : p < g) (h : i = p ∨ i = g) : mx_o p g (i + 1) = mx_o p g i := by
  unfold mx_o
  (repeat' split) <;> omega
theorem mx_ol {p g n x : Nat} (hpg : p < g) (hg : g < n) (hx : x < n) (h1 : x ≠ p) (h2 : x ≠ g) : mx_o p g x < n - 2 := by
  unfold mx_o
  (repeat' split) <;> omega
section
variable {z : Int32} {K L M X kf kt : Nat → Int32} {lv kd : Nat → Nat} {mn : Nat → Int32} {T : Nat → Nat} {n p g : Nat} {S : Nat → Nat → Int} {V : Nat → Nat → Int32} {O : Nat → Nat → Int}
theorem mf_13 {s v o fr tu pn : Nat → Int32} (hG : mx_G lv kd mn K L M) (hn : n ≤ 15) (hA : mx_A X T n) (hpg : p + 1 < g) (hg : g < n) (h18 : T p = 18) (h19 : T g = 19) (h : mx_T lv kd mn T n (-2) S V O) (h0 : 0 ≤ S 0 n) (hi : 0 ≤ S (p + 1) g)
    {d0 : Nat} {nd : Int} (hK : mx_K lv kd T O p d0 0 n 0 p (g + 1) nd) (HK : ∀ x f t, x < n → 10 ≤ T x → T x < 18 → mx_N lv kd T O x 0 n f t → kf x = nI f ∧ kt x = nI t) {post : Int32 → SY → Prop}
    (H1 : nd ≤ S (p + 1) g → ∀ m R s v o fr tu pn, post 1 ((nI n), m, K, L, M, X, R, s, v, o, fr, tu, kf, kt, pn)) (H0 : ¬ nd ≤ S (p + 1) g → ∀ m R s v o fr tu pn, post 0 ((nI n), m, K, L, M, X, R, s, v, o, fr, tu, kf, kt, pn)) :
    ∀ d i R, i + d = n → (∀ y, y < mx_o p g i → R y = nI (mx_q T p g y)) → wY_isSpare_13 post (nI p) (nI g) (nI n) (d + 1) (nI i) (nI (mx_o p g i)) K L M X R s v o fr tu kf kt pn := by
  have hk := hG.1
  have hQ : mx_Q T (mx_q T p g) p g n := mx_qQ hpg hg
  intro d
  induction d with
  | zero =>
    intro i R hi' hR
    have e : i = n := by omega
    subst e
    have om : mx_o p g i = i - 2 := mx_o3 (by omega) (by omega)
    rw [om] at hR
    rw [om]
    refine br_t (nI_le (by omega) (by omega)) (my_rall hG (by omega) ⟨hR, mx_q20 hA.2⟩ (fun s' v' o' hT' r hr => ?_))
    have sp := mx_sp hk h hT' (by decide) (by decide) hQ h18 h19 hi h0 hK
    refine my_if (my_le0 hr) (fun c => mf_fs hT' (by omega) c (fun fr' tu' pn' hfr => ⟨i + 1, ?_⟩)) (fun c => H0 (fun hle => c (sp.mp hle).1) _ _ _ _ _ _ _ _)
    refine mf_77 hn hA (by omega) hg (C := fun x => ∀ f t f' t', mx_N lv kd T O x 0 i f t → mx_N lv kd (mx_q T p g) (mx_O o') (mx_o p g x) 0 (i - 2) f' t' → f' = mx_o p g f ∧ t' = mx_o p g t) (fun x x1 x2 x3 => ?_) (fun hall => H1 (sp.mpr ⟨c, fun x f t f' t' a b c' hN hN' => hall x a b c' f t f' t' hN hN'⟩) _ _ _ _ _ _ _ _) (fun hno => H0 (fun hle => hno (fun x a b c' f t f' t' hN hN' => (sp.mp hle).2 x f t f' t' a b c' hN hN')) _ _ _ _ _ _ _ _) i 0 (by omega) (fun y hy => absurd hy (by omega))
    have xp : x ≠ p := by
      intro e
      rw [e] at x3
      omega
    have xg : x ≠ g := by
      intro e
      rw [e] at x3
      omega
    have lt := mx_ol (by omega : p < g) hg x1 xp xg
    have tx := mx_Qo hQ x1 xp xg
    obtain ⟨da, F, G, qa, Ka⟩ := mx_Ke h (by decide) (x := x) i 0 i 0 (by omega) (Nat.le_refl _) h0 (Nat.zero_le _) x1
    obtain ⟨db, f', t', qb, Kb⟩ := mx_Ke hT' (by decide) (x := mx_o p g x) (i - 2) 0 (i - 2) 0 (by omega) (Nat.le_refl _) c (Nat.zero_le _) lt
    have fa := mx_Kf h (by decide) da 0 i 0 F G qa (Nat.le_refl _) h0 (Nat.zero_le _) x1 h0 (Int.le_refl _) Ka
    have fb := mx_Kf hT' (by decide) db 0 (i - 2) 0 f' t' qb (Nat.le_refl _) c (Nat.zero_le _) lt c (Int.le_refl _) Kb
    obtain ⟨w1, w2⟩ := HK x F G x1 x2 x3 ⟨da, 0, qa, Ka⟩
    obtain ⟨w3, w4⟩ := hfr (mx_o p g x) f' t' lt (by rw [tx]; exact x2) (by rw [tx]; exact x3) ⟨db, 0, qb, Kb⟩
    refine ⟨F, G, f', t', w1, w2, w3, w4, by omega, by omega, by omega, by omega, fun hC => hC F G f' t' ⟨da, 0, qa, Ka⟩ ⟨db, 0, qb, Kb⟩, fun ⟨e1, e2⟩ f t f2 t2 hN hN' => ?_⟩
    obtain ⟨y1, y2⟩ := mx_Nu da 0 i 0 F G qa f t Ka hN
    obtain ⟨y3, y4⟩ := mx_Nu db 0 (i - 2) 0 f' t' qb f2 t2 Kb hN'
    rw [y1, y2, y3, y4]
    exact ⟨e1, e2⟩
  | succ d ih =>
    intro i R hi' hR
    have hr : X (nI i).toNatClampNeg = nI (T i) := by rw [nI_clamp (by omega)]; exact hA.1 i (by omega)
    have ob : mx_o p g i ≤ i := Nat.le_trans (Nat.sub_le _ _) (Nat.sub_le _ _)
    refine br_f (nI_ge (by omega) (by omega)) (pk_eq i p (fun c => nm_r (nI_1 i) ?_) (fun c => pk_eq i g (fun c2 => nm_r (nI_1 i) ?_) (fun c2 => ⟨vp_in_nI (by omega) (by omega), vp_in_nI (by omega) (by omega), nm_r (e' := upd R (mx_o p g i) (nI (T i))) (by rw [nI_clamp (n := mx_o p g i) (by omega), hr]) (nm_r (nI_1 (mx_o p g i)) (nm_r (nI_1 i) ?_))⟩)))
    · have e := mx_osp (p := p) (g := g) (i := i) (by omega) (Or.inl c)
      have go := ih (i + 1) R (by omega) (by rw [e]; exact hR)
      rw [e] at go
      exact go
    · have e := mx_osp (p := p) (g := g) (i := i) (by omega) (Or.inr c2)
      have go := ih (i + 1) R (by omega) (by rw [e]; exact hR)
      rw [e] at go
      exact go
    · have e := mx_os (p := p) (g := g) (i := i) (by omega) c c2
      have go := ih (i + 1) (upd R (mx_o p g i) (nI (T i))) (by omega) (fun y hy => ?_)
      · rw [e] at go
        exact go
      · rw [e] at hy
        by_cases ey : y = mx_o p g i
        · rw [ey, pk_us, mx_Qo hQ (by omega) c c2]
        · rw [pk_un ey]
          exact hR y (by omega)
theorem mf_isp {m : Int32} {R s v o fr tu pn : Nat → Int32} (hG : mx_G lv kd mn K L M) (hn : n ≤ 15) (hA : mx_A X T n) (hpg : p + 1 < g) (hg : g < n) (h18 : T p = 18) (h19 : T g = 19) (h : mx_T lv kd mn T n (-2) S V O) (h0 : 0 ≤ S 0 n) (hi : 0 ≤ S (p + 1) g)
    {d0 : Nat} {nd : Int} (hK : mx_K lv kd T O p d0 0 n 0 p (g + 1) nd) (HK : ∀ x f t, x < n → 10 ≤ T x → T x < 18 → mx_N lv kd T O x 0 n f t → kf x = nI f ∧ kt x = nI t) {post : Int32 → SY → Prop}
    (H1 : nd ≤ S (p + 1) g → ∀ m R s v o fr tu pn, post 1 ((nI n), m, K, L, M, X, R, s, v, o, fr, tu, kf, kt, pn)) (H0 : ¬ nd ≤ S (p + 1) g → ∀ m R s v o fr tu pn, post 0 ((nI n), m, K, L, M, X, R, s, v, o, fr, tu, kf, kt, pn)) : wpY_isSpare post ((nI n), m, K, L, M, X, R, s, v, o, fr, tu, kf, kt, pn) (nI p) := by
  have hD := mx_dk h g (p + 1) g (by omega) (by omega) hi
  have o0 : mx_o p g 0 = 0 := mx_o1 (by omega) (by omega)
  refine mf_pt hn hA hg (by omega) h18 h19 hD ⟨n + 1, ?_⟩
  have go := mf_13 (s := s) (v := v) (o := o) (fr := fr) (tu := tu) (pn := pn) hG hn hA hpg hg h18 h19 h h0 hi hK HK H1 H0 n 0 R (by omega) (fun y hy => by omega)
  rw [o0] at go
  exact go
theorem mf_58 (hG : mx_G lv kd mn K L M) (hn : n ≤ 15) (hA : mx_A X T n) (h : mx_T lv kd mn T n (-2) S V O) (h0 : 0 ≤ S 0 n)
    (HK : ∀ x f t, x < n → 10 ≤ T x → T x < 18 → mx_N lv kd T O x 0 n f t → kf x = nI f ∧ kt x = nI t) {post : Int32 → SY → Prop} {Q : Nat → Prop}
    (HQ : ∀ p, p < n → T p = 18 → ∃ d g nd, mx_K lv kd T O p d 0 n 0 p (g + 1) nd ∧ p + 1 < g ∧ g < n ∧ T g = 19 ∧ 0 ≤ S (p + 1) g ∧ (Q p ↔ nd ≤ S (p + 1) g)) (HQ0 : ∀ p, p < n → T p ≠ 18 → ¬ Q p)
    (Hf : ∀ m R s v o fr tu pn, post (nI (mx_cn Q n)) ((nI n), m, K, L, M, X, R, s, v, o, fr, tu, kf, kt, pn)) :
    ∀ d i m R s v o fr tu pn, i + d = n → wY_spare_58 post (d + 1) (nI (mx_cn Q i)) (nI i) (nI n) m K L M X R s v o fr tu kf kt pn := by
  intro d
  induction d with
  | zero =>
    intro i m R s v o fr tu pn hi
    have e : i = n := by omega
    subst e
    exact br_t (nI_le (by omega) (by omega)) (Hf m R s v o fr tu pn)
  | succ d ih =>
    intro i m R s v o fr tu pn hi
    have hr : X (nI i).toNatClampNeg = nI (T i) := by rw [nI_clamp (by omega)]; exact hA.1 i (by omega)
    have hT := hA.2 i
    refine br_f (nI_ge (by omega) (by omega)) ⟨vp_in_nI (by omega) (by omega), my_if (d := T i = 18) (by rw [hr]; exact nI_eq (b := 18) (by omega) (by decide)) (fun c => ?_) (fun c => nm_r (nI_1 i) ?_)⟩
    · obtain ⟨d1, g, nd, k1, k2, k3, k4, k5, k6⟩ := HQ i (by omega) c
      refine mf_isp hG hn hA k2 k3 c k4 h h0 k5 k1 HK (fun hle m R s v o fr tu pn => br_f (by decide) (nm_r (nI_1 _) (nm_r (nI_1 i) ?_))) (fun hle m R s v o fr tu pn => br_t rfl (nm_r (nI_1 i) ?_))
      · rw [← mx_cn1 (k6.mpr hle)]
        exact ih (i + 1) m R s v o fr tu pn (by omega)
      · rw [← mx_cn0 (fun z => hle (k6.mp z))]
        exact ih (i + 1) m R s v o fr tu pn (by omega)
    · rw [← mx_cn0 (HQ0 i (by omega) c)]
      exact ih (i + 1) m R s v o fr tu pn (by omega)
end
section
variable {m : Int32} {K L M X R s v o fr tu pn : Nat → Int32} {lv kd : Nat → Nat} {mn : Nat → Int32} {T : Nat → Nat} {n : Nat}
theorem mf_16 (hn : n ≤ 15) {post : Int32 → SY → Prop}
    (H : ∀ kf kt, (∀ y, y < n → kf y = fr y ∧ kt y = tu y) → ∃ n58, wY_spare_58 post n58 0 0 (nI n) m K L M X R s v o fr tu kf kt pn) :
    ∀ d i kf kt, i + d = n → (∀ y, y < i → kf y = fr y ∧ kt y = tu y) → wY_spare_16 post (nI n) m (d + 1) (nI i) K L M X R s v o fr tu kf kt pn := by
  intro d
  induction d with
  | zero =>
    intro i kf kt hi hb
    have e : i = n := by omega
    subst e
    exact br_t (nI_le (by omega) (by omega)) (H kf kt hb)
  | succ d ih =>
    intro i kf kt hi hb
    have i16 : vp_in (nI i) 16 := vp_in_nI (by omega) (by omega)
    have ci : (nI i).toNatClampNeg = i := nI_clamp (by omega)
    refine br_f (nI_ge (by omega) (by omega)) ⟨i16, i16, nm_r (e' := upd kf i (fr i)) (by rw [ci]) ⟨i16, i16, nm_r (e' := upd kt i (tu i)) (by rw [ci]) (nm_r (nI_1 i) (ih (i + 1) _ _ (by omega) (fun y hy => ?_)))⟩⟩
    by_cases e : y = i
    · rw [e]
      exact ⟨pk_us, pk_us⟩
    · rw [pk_un e, pk_un e]
      exact hb y (by omega)
end
section
variable {K L M X s o v : Nat → Int32} {lv kd : Nat → Nat} {mn : Nat → Int32} {T : Nat → Nat} {n : Nat}
theorem mv_isp {wa wb wc : Int32} (hG : mx_G lv kd mn K L M) (h : mx_T lv kd mn T n (-1) (mx_S s) (mx_V v) (mx_O o)) (hn : n ≤ 15) (hA : mx_A X T n) (h0 : 0 ≤ mx_S s 0 n) {p g d : Nat} {nd : Int} (hK : mx_K lv kd T (mx_O o) p d 0 n 0 p (g + 1) nd) (hpg : p + 1 < g) (hg : g < n) {post : Int32 → SX → Prop}
    (H1 : nd ≤ mx_S s (p + 1) g → ∀ wa wb wc, post 1 ((nI n), wa, wb, wc, K, L, M, X, s, o, v)) (H0 : ¬ nd ≤ mx_S s (p + 1) g → ∀ wa wb wc, post 0 ((nI n), wa, wb, wc, K, L, M, X, s, o, v)) : wpX_isSpare post ((nI n), wa, wb, wc, K, L, M, X, s, o, v) (nI p) := by
  have e3 : ((nI p + 1) * (17 : Int32) + nI (g + 1)) - 1 = nI (17 * (p + 1) + g) := by
    rw [mz_17b p (g + 1)]
    exact (pk_sub (b := 1) (by omega)).trans (congrArg nI (by omega))
  refine mw_wd (wa := wa) (wb := wb) (wc := wc) hG h (by omega) hA h0 (by omega) hK (fun w' hw => ⟨by rw [e3]; exact vp_in_nI (by omega) (by omega), my_if (d := mx_S s (p + 1) g < nd) ?_ (fun c => H0 (by omega) _ _ _) (fun c => H1 (by omega) _ _ _)⟩)
  rw [e3, nI_clamp (by omega), Int32.lt_iff_toInt_lt, hw, mx_S1 hpg]
theorem mv_18 (hG : mx_G lv kd mn K L M) (h : mx_T lv kd mn T n (-1) (mx_S s) (mx_V v) (mx_O o)) (hn : n ≤ 15) (hA : mx_A X T n) (h0 : 0 ≤ mx_S s 0 n) {post : Int32 → SX → Prop} {Q : Nat → Prop}
    (HQ : ∀ p, p < n → T p = 18 → ∃ d g nd, mx_K lv kd T (mx_O o) p d 0 n 0 p (g + 1) nd ∧ p + 1 < g ∧ g < n ∧ (Q p ↔ nd ≤ mx_S s (p + 1) g)) (HQ0 : ∀ p, p < n → T p ≠ 18 → ¬ Q p)
    (Hf : ∀ wa wb wc, post (nI (mx_cn Q n)) ((nI n), wa, wb, wc, K, L, M, X, s, o, v)) :
    ∀ d i wa wb wc, i + d = n → wX_spare_18 post (d + 1) (nI (mx_cn Q i)) (nI i) (nI n) wa wb wc K L M X s o v := by
  intro d
  induction d with
  | zero =>
    intro i wa wb wc hi
    have e : i = n := by omega
    subst e
    exact br_t (nI_le (by omega) (by omega)) (Hf wa wb wc)
  | succ d ih =>
    intro i wa wb wc hi
    have hr : X (nI i).toNatClampNeg = nI (T i) := by rw [nI_clamp (by omega)]; exact hA.1 i (by omega)
    have hT := hA.2 i
    refine br_f (nI_ge (by omega) (by omega)) ⟨vp_in_nI (by omega) (by omega), my_if (d := T i = 18) (by rw [hr]; exact nI_eq (b := 18) (by omega) (by decide)) (fun c => ?_) (fun c => nm_r (nI_1 i) ?_)⟩
    · obtain ⟨d1, g, nd, k1, k2, k3, k4⟩ := HQ i (by omega) c
      refine mv_isp hG h hn hA h0 k1 k2 k3 (fun hle wa wb wc => br_f (by decide) (nm_r (nI_1 _) (nm_r (nI_1 i) ?_))) (fun hle wa wb wc => br_t rfl (nm_r (nI_1 i) ?_))
      · rw [← mx_cn1 (k4.mpr hle)]
        exact ih (i + 1) wa wb wc (by omega)
      · rw [← mx_cn0 (fun z => hle (k4.mp z))]
        exact ih (i + 1) wa wb wc (by omega)
    · rw [← mx_cn0 (HQ0 i (by omega) c)]
      exact ih (i + 1) wa wb wc (by omega)
end
/-! endings -/
def mx_at (T : Nat → Nat) (n t : Nat) (j : Nat) : Nat := if j = n then t else T j
theorem mx_atA {R : Nat → Int32} {T : Nat → Nat} {n t : Nat} (hA : ∀ j, j < n → R j = nI (T j)) (h20 : ∀ j, T j < 20) (ht : t < 20) : mx_A (upd R n (nI t)) (mx_at T n t) (n + 1) := by
  refine ⟨fun j hj => ?_, fun j => ?_⟩
  · unfold mx_at
    by_cases e : j = n
    · rw [if_pos e, e]
      exact pk_us
    · rw [if_neg e, pk_un e]
      exact hA j (by omega)
  · unfold mx_at
    split
    · exact ht
    · exact h20 j
def mx_en (lv kd : Nat → Nat) (mn : Nat → Int32) (T : Nat → Nat) (n t : Nat) : Prop :=
  ∃ cb S V O, mx_T lv kd mn (mx_at T n t) (n + 1) cb S V O ∧ 0 ≤ S 0 (n + 1)
theorem mx_enI {lv kd : Nat → Nat} {mn : Nat → Int32} {T : Nat → Nat} {n t : Nat} {cb : Int} {S : Nat → Nat → Int} {V : Nat → Nat → Int32} {O : Nat → Nat → Int} (hk : ∀ k, kd k < 5) (h : mx_T lv kd mn (mx_at T n t) (n + 1) cb S V O) :
    mx_en lv kd mn T n t ↔ 0 ≤ S 0 (n + 1) := by
  constructor
  · intro ⟨cb', S', V', O', h', h0⟩
    rw [← (mw_eq hk h h' (i := 0) (j := n + 1) (Nat.le_refl _)).1]
    exact h0
  · intro h0
    exact ⟨cb, S, V, O, h, h0⟩
section
variable {lv kd : Nat → Nat} {mn : Nat → Int32} {T : Nat → Nat} {n : Nat} {K L M : Nat → Int32}
theorem me_X {wa wb wc : Int32} (hG : mx_G lv kd mn K L M) (hn : n ≤ 15) (h20 : ∀ j, T j < 20) {post : Int32 → SX → Prop}
    (Hf : ∀ X s o v, (∀ j, j < n → X j = nI (T j)) → post (nI (mx_cn (mx_en lv kd mn T n) 20)) ((nI n), wa, wb, wc, K, L, M, X, s, o, v)) :
    ∀ d t X s o v, t + d = 20 → (∀ j, j < n → X j = nI (T j)) → wX_endings_4 post (d + 1) (nI (mx_cn (mx_en lv kd mn T n) t)) (nI t) (nI n) wa wb wc K L M X s o v := by
  intro d
  induction d with
  | zero =>
    intro t X s o v ht hX
    have e : t = 20 := by omega
    subst e
    exact br_t (nI_le (a := 20) (by omega) (by omega)) (Hf X s o v hX)
  | succ d ih =>
    intro t X s o v ht hX
    refine br_f (nI_ge (b := 20) (by omega) (by decide)) ⟨vp_in_nI (by omega) (by omega), nm_r (e' := upd X n (nI t)) (by rw [nI_clamp (by omega)]) (mz_rtx hG (nI_1 n) (by omega) (mx_atA hX h20 (by omega)) (fun s' o' v' hT hd r hr => ?_))⟩
    have hX' : ∀ j, j < n → upd X n (nI t) j = nI (T j) := fun j hj => by rw [pk_un (by omega)]; exact hX j hj
    have c1 := mx_C1 (hT.2 0 (n + 1) (by omega) (Nat.le_refl _))
    have en := mx_enI hG.1 hT
    rcases hr with ⟨r0, hS⟩ | ⟨r1, hS⟩
    · refine br_t r0 (nm_r (nI_1 t) ?_)
      rw [← mx_cn0 (fun z => by have := en.mp z; omega)]
      exact ih (t + 1) _ s' o' v' (by omega) hX'
    · refine br_f (by rw [r1]; decide) (nm_r (nI_1 _) (nm_r (nI_1 t) ?_))
      rw [← mx_cn1 (en.mpr (by omega))]
      exact ih (t + 1) _ s' o' v' (by omega) hX'
theorem me_Y {X fr tu kf kt pn : Nat → Int32} (hG : mx_G lv kd mn K L M) (hn : n ≤ 15) (hA : mx_A X T n) {post : Int32 → SY → Prop}
    (Hf : ∀ m R s v o, post (nI (mx_cn (mx_en lv kd mn T n) 20)) ((nI n), m, K, L, M, X, R, s, v, o, fr, tu, kf, kt, pn)) :
    ∀ d t m R s v o, t + d = 20 → wY_endings_4 post (d + 1) (nI (mx_cn (mx_en lv kd mn T n) t)) (nI t) (nI n) m K L M X R s v o fr tu kf kt pn := by
  intro d
  induction d with
  | zero =>
    intro t m R s v o ht
    have e : t = 20 := by omega
    subst e
    exact br_t (nI_le (a := 20) (by omega) (by omega)) (Hf m R s v o)
  | succ d ih =>
    intro t m R s v o ht
    refine br_f (nI_ge (b := 20) (by omega) (by decide)) (my_rtx hG hn hA (fun R' s' v' o' hR' hT' r' hr' => ⟨vp_in_nI (by omega) (by omega), nm_r (e' := upd R' n (nI t)) (by rw [nI_clamp (by omega)]) (nm_r (nI_1 n) (my_rall hG (by omega) (mx_atA hR'.1 hA.2 (by omega)) (fun s2 v2 o2 hT r hr => ?_)))⟩))
    have en := mx_enI hG.1 hT
    refine my_if (my_lt0 hr) (fun c => nm_r (nI_1 t) ?_) (fun c => nm_r (nI_1 _) (nm_r (nI_1 t) ?_))
    · rw [← mx_cn0 (fun z => by have := en.mp z; omega)]
      exact ih (t + 1) _ _ s2 v2 o2 (by omega)
    · rw [← mx_cn1 (en.mpr (by omega))]
      exact ih (t + 1) _ _ s2 v2 o2 (by omega)
end
end
section
/-! what is owed -/
def i_Rel (_ : Nat) (u : SX) (y : SY) : Prop :=
  ∃ (lv kd : Nat → Nat) (mn : Nat → Int32) (T : Nat → Nat) (n : Nat) (K L M K2 L2 M2 X X2 : Nat → Int32) (wa wb wc : Int32) (s o v : Nat → Int32) (m : Int32) (R s2 v2 o2 fr tu kf kt pn : Nat → Int32),
    n ≤ 15 ∧ mx_G lv kd mn K L M ∧ mx_G lv kd mn K2 L2 M2 ∧ mx_A X T n ∧ mx_A X2 T n ∧ u = ((nI n), wa, wb, wc, K, L, M, X, s, o, v) ∧ y = ((nI n), m, K2, L2, M2, X2, R, s2, v2, o2, fr, tu, kf, kt, pn)
theorem i_up {k : Nat} {u : SX} {v : SY} (h : i_Rel k u v) : i_Rel (k + 4) u v := h
theorem mr_mk {k : Nat} {lv kd : Nat → Nat} {mn : Nat → Int32} {T : Nat → Nat} {n : Nat} {K L M K2 L2 M2 X X2 : Nat → Int32} {wa wb wc : Int32} {s o v : Nat → Int32} {m : Int32} {R s2 v2 o2 fr tu kf kt pn : Nat → Int32}
    (hn : n ≤ 15) (hG : mx_G lv kd mn K L M) (hG2 : mx_G lv kd mn K2 L2 M2) (hX : mx_A X T n) (hX2 : mx_A X2 T n) : i_Rel k ((nI n), wa, wb, wc, K, L, M, X, s, o, v) ((nI n), m, K2, L2, M2, X2, R, s2, v2, o2, fr, tu, kf, kt, pn) :=
  ⟨lv, kd, mn, T, n, K, L, M, K2, L2, M2, X, X2, wa, wb, wc, s, o, v, m, R, s2, v2, o2, fr, tu, kf, kt, pn, hn, hG, hG2, hX, hX2, rfl, rfl⟩
/-! a new object -/
def mr_lv (t : Nat) : Nat := if t < 16 then (t - 10) / 2 else if t < 18 then t - 13 else 0
def mr_mn (t : Nat) : Int32 := nI (t - 10) &&& 3
theorem mr_G0 {L M : Nat → Int32} (h : ∀ x, x < 8 → L x = nI (mr_lv (x + 10)) ∧ M x = nI x &&& 3) : mx_G mr_lv (fun _ => 0) mr_mn (fun _ => 0) L M := by
  refine ⟨fun _ => (by decide : 0 < 5), fun t => ?_, fun k _ => nI_0.symm, fun t h1 h2 => ?_, fun t h1 h2 => ?_⟩
  · unfold mr_lv
    split
    · omega
    · split <;> omega
  · have e : t - 10 + 10 = t := by omega
    have := (h (t - 10) (by omega)).1
    rw [e] at this
    exact this
  · exact (h (t - 10) (by omega)).2
theorem mr_l1 {x : Nat} (h : ¬ 6 ≤ x) : mr_lv (x + 10) = x / 2 := by
  unfold mr_lv
  rw [if_pos (by omega)]
  omega
theorem mr_l2 {x : Nat} (h : 6 ≤ x) (h8 : x < 8) : mr_lv (x + 10) = x - 3 := by
  unfold mr_lv
  rw [if_neg (by omega), if_pos (by omega)]
  omega
theorem mr_iX {post : SX → Prop} {z wa wb wc : Int32} {K X s o v : Nat → Int32} (H : ∀ L M, (∀ x, x < 8 → L x = nI (mr_lv (x + 10)) ∧ M x = nI x &&& 3) → post (z, wa, wb, wc, K, L, M, X, s, o, v)) :
    ∀ d i L M, i + d = 8 → (∀ x, x < i → L x = nI (mr_lv (x + 10)) ∧ M x = nI x &&& 3) → wX_init_84 post z wa wb wc (d + 1) (nI i) K L M X s o v := by
  intro d
  induction d with
  | zero =>
    intro i L M hi hb
    exact br_t (nI_le (a := 8) (by omega) (by omega)) (H L M (fun x hx => hb x (by omega)))
  | succ d ih =>
    intro i L M hi hb
    have i8 : vp_in (nI i) 8 := vp_in_nI (by omega) (by omega)
    have ci : (nI i).toNatClampNeg = i := nI_clamp (by omega)
    have nx : ∀ x, x < i + 1 → upd L i (nI (mr_lv (i + 10))) x = nI (mr_lv (x + 10)) ∧ upd M i (nI i &&& 3) x = nI x &&& 3 := by
      intro x hx
      by_cases e : x = i
      · rw [e]
        exact ⟨pk_us, pk_us⟩
      · rw [pk_un e, pk_un e]
        exact hb x (by omega)
    refine br_f (nI_ge (b := 8) (by omega) (by decide)) (my_if (d := 6 ≤ i) (nI_leI (a := 6) (by decide) (by omega)) (fun c => ⟨i8, nm_r (e' := upd L i (nI (mr_lv (i + 10)))) ?_ ⟨i8, nm_r (e' := upd M i (nI i &&& 3)) (by rw [ci]) (nm_r (nI_1 i) (ih (i + 1) _ _ (by omega) nx))⟩⟩) (fun c => ⟨by decide, i8, nm_r (e' := upd L i (nI (mr_lv (i + 10)))) ?_ ⟨i8, nm_r (e' := upd M i (nI i &&& 3)) (by rw [ci]) (nm_r (nI_1 i) (ih (i + 1) _ _ (by omega) nx))⟩⟩))
    · rw [ci, mr_l2 c (by omega)]
      exact congrArg (fun a => upd L i a) (pk_sub (b := 3) (by omega))
    · rw [ci, mr_l1 c]
      exact congrArg (fun a => upd L i a) (pk_div (d := 2) (by omega) (by decide) (by decide))
theorem mr_iY {post : SY → Prop} {z m : Int32} {K X R s v o fr tu kf kt pn : Nat → Int32} (H : ∀ L M, (∀ x, x < 8 → L x = nI (mr_lv (x + 10)) ∧ M x = nI x &&& 3) → post (z, m, K, L, M, X, R, s, v, o, fr, tu, kf, kt, pn)) :
    ∀ d i L M, i + d = 8 → (∀ x, x < i → L x = nI (mr_lv (x + 10)) ∧ M x = nI x &&& 3) → wY_init_112 post z m (d + 1) (nI i) K L M X R s v o fr tu kf kt pn := by
  intro d
  induction d with
  | zero =>
    intro i L M hi hb
    exact br_t (nI_le (a := 8) (by omega) (by omega)) (H L M (fun x hx => hb x (by omega)))
  | succ d ih =>
    intro i L M hi hb
    have i8 : vp_in (nI i) 8 := vp_in_nI (by omega) (by omega)
    have ci : (nI i).toNatClampNeg = i := nI_clamp (by omega)
    have nx : ∀ x, x < i + 1 → upd L i (nI (mr_lv (i + 10))) x = nI (mr_lv (x + 10)) ∧ upd M i (nI i &&& 3) x = nI x &&& 3 := by
      intro x hx
      by_cases e : x = i
      · rw [e]
        exact ⟨pk_us, pk_us⟩
      · rw [pk_un e, pk_un e]
        exact hb x (by omega)
    refine br_f (nI_ge (b := 8) (by omega) (by decide)) (my_if (d := 6 ≤ i) (nI_leI (a := 6) (by decide) (by omega)) (fun c => ⟨i8, nm_r (e' := upd L i (nI (mr_lv (i + 10)))) ?_ ⟨i8, nm_r (e' := upd M i (nI i &&& 3)) (by rw [ci]) (nm_r (nI_1 i) (ih (i + 1) _ _ (by omega) nx))⟩⟩) (fun c => ⟨by decide, i8, nm_r (e' := upd L i (nI (mr_lv (i + 10)))) ?_ ⟨i8, nm_r (e' := upd M i (nI i &&& 3)) (by rw [ci]) (nm_r (nI_1 i) (ih (i + 1) _ _ (by omega) nx))⟩⟩))
    · rw [ci, mr_l2 c (by omega)]
      exact congrArg (fun a => upd L i a) (pk_sub (b := 3) (by omega))
    · rw [ci, mr_l1 c]
      exact congrArg (fun a => upd L i a) (pk_div (d := 2) (by omega) (by decide) (by decide))
theorem i_vc0 : wpX_init (fun u => wpY_init (fun v => i_Rel 0 u v)) := by
  refine ⟨9, mr_iX (fun L M h => ⟨9, mr_iY (fun L2 M2 h2 => ?_) 8 0 (fun _ => 0) (fun _ => 0) (by decide) (fun x hx => absurd hx (by omega))⟩) 8 0 (fun _ => 0) (fun _ => 0) (by decide) (fun x hx => absurd hx (by omega))⟩
  exact mr_mk (T := fun _ => 0) (n := 0) (by decide) (mr_G0 h) (mr_G0 h2) ⟨fun j hj => absurd hj (by omega), fun _ => (by decide : 0 < 20)⟩ ⟨fun j hj => absurd hj (by omega), fun _ => (by decide : 0 < 20)⟩
theorem mr_Gk {lv kd : Nat → Nat} {mn : Nat → Int32} {K L M : Nat → Int32} {a b : Nat} (hG : mx_G lv kd mn K L M) (hb : b < 5) : mx_G lv (fun x => if x = a then b else kd x) mn (upd K a (nI b)) L M := by
  obtain ⟨g1, g2, g3, g4, g5⟩ := hG
  refine ⟨fun k => ?_, g2, fun k hk => ?_, g4, g5⟩
  · show (if k = a then b else kd k) < 5
    split
    · exact hb
    · exact g1 k
  · show upd K a (nI b) k = nI (if k = a then b else kd k)
    by_cases e : k = a
    · rw [if_pos e, e]
      exact pk_us
    · rw [if_neg e, pk_un e]
      exact g3 k hk
theorem mr_Go {lv kd : Nat → Nat} {mn : Nat → Int32} {K L M : Nat → Int32} {a b : Nat} {c : Int32} (hG : mx_G lv kd mn K L M) (hb : b < 5) : mx_G (fun t => if t = a + 10 then b else lv t) kd (fun t => if t = a + 10 then c else mn t) K (upd L a (nI b)) (upd M a c) := by
  obtain ⟨g1, g2, g3, g4, g5⟩ := hG
  refine ⟨g1, fun t => ?_, g3, fun t h1 h2 => ?_, fun t h1 h2 => ?_⟩
  · show (if t = a + 10 then b else lv t) < 5
    split
    · exact hb
    · exact g2 t
  · show upd L a (nI b) (t - 10) = nI (if t = a + 10 then b else lv t)
    by_cases e : t = a + 10
    · have e2 : t - 10 = a := by omega
      rw [if_pos e, e2]
      exact pk_us
    · rw [if_neg e, pk_un (by omega)]
      exact g4 t h1 h2
  · show upd M a c (t - 10) = (if t = a + 10 then c else mn t)
    by_cases e : t = a + 10
    · have e2 : t - 10 = a := by omega
      rw [if_pos e, e2]
      exact pk_us
    · rw [if_neg e, pk_un (by omega)]
      exact g5 t h1 h2
theorem i_vc_level {k : Nat} {u : SX} {v : SY} (I : i_Rel k u v) (hk : k + 4 ≤ 2048) (v1 : Int32) (v2 : Int32) : wpX_level (fun r u' => wpY_level (fun r' v' => r' = r ∧ i_Rel (k + 4) u' v') v v1 v2) u v1 v2 := by
  obtain ⟨lv, kd, mn, T, n, K, L, M, K2, L2, M2, X, X2, wa, wb, wc, s, o, v, m, R, s2, v2', o2, fr, tu, kf, kt, pn, hn, hG, hG2, hX, hX2, rfl, rfl⟩ := I
  have same := mr_mk (k := k + 4) (wa := wa) (wb := wb) (wc := wc) (s := s) (o := o) (v := v) (m := m) (R := R) (s2 := s2) (v2 := v2') (o2 := o2) (fr := fr) (tu := tu) (kf := kf) (kt := kt) (pn := pn) hn hG hG2 hX hX2
  by_cases c0 : v1 < 0
  · exact br_t c0 (br_t c0 ⟨rfl, same⟩)
  · obtain ⟨a, ha, rfl⟩ := nI_of c0
    by_cases ca : a < 5
    · have x1 : ¬ (5 : Int32) ≤ nI a := nI_ge (b := 5) ca (by decide)
      have y1 : ¬ (4 : Int32) < nI a := nI_nlt (a := 4) (by omega) (by decide)
      by_cases c1 : v2 < 0
      · exact br_f c0 (br_f x1 (br_t c1 (br_f c0 (br_f y1 (br_t c1 ⟨rfl, same⟩)))))
      · obtain ⟨b, hb, rfl⟩ := nI_of c1
        by_cases cb : b < 5
        · have i5 : vp_in (nI a) 5 := vp_in_nI ca (by decide)
          have cc : (nI a).toNatClampNeg = a := nI_clamp ha
          have ex : K (nI a).toNatClampNeg = nI (kd a) := by rw [cc]; exact hG.2.2.1 a ca
          have ey : K2 (nI a).toNatClampNeg = nI (kd a) := by rw [cc]; exact hG2.2.2.1 a ca
          exact br_f c0 (br_f x1 (br_f c1 (br_t (nI_lt (b := 5) cb (by decide)) ⟨i5, nm_r ex ⟨i5, nm_r (e' := upd K a (nI b)) (by rw [cc]) (br_f c0 (br_f y1 (br_f c1 (br_t (nI_le (b := 4) (by omega) (by decide)) ⟨i5, nm_r ey ⟨i5, nm_r (e' := upd K2 a (nI b)) (by rw [cc]) ⟨rfl, mr_mk hn (mr_Gk hG cb) (mr_Gk hG2 cb) hX hX2⟩⟩⟩))))⟩⟩)))
        · exact br_f c0 (br_f x1 (br_f c1 (br_f (nI_nlt (b := 5) (by omega) hb) (br_f c0 (br_f y1 (br_f c1 (br_f (nI_ge (a := 4) (by omega) hb) ⟨rfl, same⟩)))))))
    · exact br_f c0 (br_t (nI_le (a := 5) (by omega) ha) (br_f c0 (br_t (nI_lt (a := 4) (by omega) ha) ⟨rfl, same⟩)))
theorem i_vc_operator {k : Nat} {u : SX} {v : SY} (I : i_Rel k u v) (hk : k + 4 ≤ 2048) (v1 : Int32) (v2 : Int32) (v3 : Int32) : wpX_operator (fun r u' => wpY_operator (fun r' v' => r' = r ∧ i_Rel (k + 4) u' v') v v1 v2 v3) u v1 v2 v3 := by
  obtain ⟨lv, kd, mn, T, n, K, L, M, K2, L2, M2, X, X2, wa, wb, wc, s, o, v, m, R, s2, v2', o2, fr, tu, kf, kt, pn, hn, hG, hG2, hX, hX2, rfl, rfl⟩ := I
  have same := mr_mk (k := k + 4) (wa := wa) (wb := wb) (wc := wc) (s := s) (o := o) (v := v) (m := m) (R := R) (s2 := s2) (v2 := v2') (o2 := o2) (fr := fr) (tu := tu) (kf := kf) (kt := kt) (pn := pn) hn hG hG2 hX hX2
  by_cases c0 : v1 < 0
  · exact br_t c0 (br_t c0 ⟨rfl, same⟩)
  · obtain ⟨a, ha, rfl⟩ := nI_of c0
    by_cases ca : a < 8
    · have x1 : ¬ (8 : Int32) ≤ nI a := nI_ge (b := 8) ca (by decide)
      have y1 : ¬ (7 : Int32) < nI a := nI_nlt (a := 7) (by omega) (by decide)
      by_cases c1 : v2 < 0
      · exact br_f c0 (br_f x1 (br_t c1 (br_f c0 (br_f y1 (br_t c1 ⟨rfl, same⟩)))))
      · obtain ⟨b, hb, rfl⟩ := nI_of c1
        by_cases cb : b < 5
        · have x2 : ¬ (5 : Int32) ≤ nI b := nI_ge (b := 5) cb (by decide)
          have y2 : ¬ (4 : Int32) < nI b := nI_nlt (a := 4) (by omega) (by decide)
          by_cases c2 : v3 < 0
          · exact br_f c0 (br_f x1 (br_f c1 (br_f x2 (br_t c2 (br_f c0 (br_f y1 (br_f c1 (br_f y2 (br_t c2 ⟨rfl, same⟩)))))))))
          · obtain ⟨e, he, rfl⟩ := nI_of c2
            by_cases ce : e < 4
            · have i8 : vp_in (nI a) 8 := vp_in_nI ca (by decide)
              have cc : (nI a).toNatClampNeg = a := nI_clamp ha
              have e10 : a + 10 - 10 = a := by omega
              have ex : L (nI a).toNatClampNeg = nI (lv (a + 10)) := by
                have := hG.2.2.2.1 (a + 10) (by omega) (by omega)
                rw [e10] at this
                rw [cc]
                exact this
              have ey : L2 (nI a).toNatClampNeg = nI (lv (a + 10)) := by
                have := hG2.2.2.2.1 (a + 10) (by omega) (by omega)
                rw [e10] at this
                rw [cc]
                exact this
              refine br_f c0 (br_f x1 (br_f c1 (br_f x2 (br_f c2 (br_t (nI_lt (b := 4) ce (by decide)) ⟨i8, nm_r ex ⟨i8, nm_r (e' := upd L a (nI b)) (by rw [cc]) ⟨i8, nm_r (e' := upd M a (nI e)) (by rw [cc]) ?_⟩⟩⟩)))))
              exact br_f c0 (br_f y1 (br_f c1 (br_f y2 (br_f c2 (br_t (nI_le (b := 3) (by omega) (by decide)) ⟨i8, nm_r ey ⟨i8, nm_r (e' := upd L2 a (nI b)) (by rw [cc]) ⟨i8, nm_r (e' := upd M2 a (nI e)) (by rw [cc]) ⟨rfl, mr_mk hn (mr_Go hG cb) (mr_Go hG2 cb) hX hX2⟩⟩⟩⟩)))))
            · exact br_f c0 (br_f x1 (br_f c1 (br_f x2 (br_f c2 (br_f (nI_nlt (b := 4) (by omega) he) (br_f c0 (br_f y1 (br_f c1 (br_f y2 (br_f c2 (br_f (nI_ge (a := 3) (by omega) he) ⟨rfl, same⟩)))))))))))
        · exact br_f c0 (br_f x1 (br_f c1 (br_t (nI_le (a := 5) (by omega) hb) (br_f c0 (br_f y1 (br_f c1 (br_t (nI_lt (a := 4) (by omega) hb) ⟨rfl, same⟩)))))))
    · exact br_f c0 (br_t (nI_le (a := 8) (by omega) ha) (br_f c0 (br_t (nI_lt (a := 7) (by omega) ha) ⟨rfl, same⟩)))
theorem i_vc_token {k : Nat} {u : SX} {v : SY} (I : i_Rel k u v) (hk : k + 4 ≤ 2048) (v1 : Int32) : wpX_token (fun r u' => wpY_token (fun r' v' => r' = r ∧ i_Rel (k + 4) u' v') v v1) u v1 := by
  obtain ⟨lv, kd, mn, T, n, K, L, M, K2, L2, M2, X, X2, wa, wb, wc, s, o, v, m, R, s2, v2, o2, fr, tu, kf, kt, pn, hn, hG, hG2, hX, hX2, rfl, rfl⟩ := I
  have same := mr_mk (k := k + 4) (wa := wa) (wb := wb) (wc := wc) (s := s) (o := o) (v := v) (m := m) (R := R) (s2 := s2) (v2 := v2) (o2 := o2) (fr := fr) (tu := tu) (kf := kf) (kt := kt) (pn := pn) hn hG hG2 hX hX2
  by_cases c0 : v1 < 0
  · exact br_t c0 (br_t c0 ⟨rfl, same⟩)
  · obtain ⟨a, ha, rfl⟩ := nI_of c0
    by_cases ca : a < 20
    · have x1 : nI a < (20 : Int32) := nI_lt (b := 20) ca (by decide)
      have y1 : nI a ≤ (19 : Int32) := nI_le (b := 19) (by omega) (by decide)
      by_cases cn : n < 15
      · have cc : (nI n).toNatClampNeg = n := nI_clamp (by omega)
        have n15 : ¬ nI n = (15 : Int32) := fun e => absurd ((nI_eq (b := 15) (by omega) (by decide)).mp e) (by omega)
        refine br_f c0 (br_t x1 (br_t (nI_lt (b := 15) cn (by decide)) ⟨vp_in_nI (by omega) (by decide), nm_r (e' := upd X n (nI a)) (by rw [cc]) (nm_r (nI_1 n) ?_)⟩))
        exact br_f c0 (br_t y1 (br_f n15 ⟨vp_in_nI (by omega) (by decide), nm_r (e' := upd X2 n (nI a)) (by rw [cc]) (nm_r (nI_1 n) ⟨rfl, mr_mk (by omega) hG hG2 (mx_atA hX.1 hX.2 ca) (mx_atA hX2.1 hX.2 ca)⟩)⟩))
      · have e : n = 15 := by omega
        subst e
        exact br_f c0 (br_t x1 (br_f (by decide) (br_f c0 (br_t y1 (br_t rfl ⟨rfl, same⟩)))))
    · exact br_f c0 (br_f (nI_nlt (b := 20) (by omega) ha) (br_f c0 (br_f (nI_ge (a := 19) (by omega) ha) ⟨rfl, same⟩)))
theorem i_vc_untoken {k : Nat} {u : SX} {v : SY} (I : i_Rel k u v) (hk : k + 4 ≤ 2048) : wpX_untoken (fun r u' => wpY_untoken (fun r' v' => r' = r ∧ i_Rel (k + 4) u' v') v) u := by
  obtain ⟨lv, kd, mn, T, n, K, L, M, K2, L2, M2, X, X2, wa, wb, wc, s, o, v, m, R, s2, v2, o2, fr, tu, kf, kt, pn, hn, hG, hG2, hX, hX2, rfl, rfl⟩ := I
  cases n with
  | zero => exact br_t rfl (br_t rfl ⟨rfl, mr_mk hn hG hG2 hX hX2⟩)
  | succ n =>
    have n0 : ¬ nI (n + 1) = 0 := nI_ne0 (by omega) (by omega)
    have cc : (nI n).toNatClampNeg = n := nI_clamp (by omega)
    refine br_f n0 (nm_r (nI_pred n) ⟨vp_in_nI (by omega) (by decide), br_f n0 (nm_r (nI_pred n) ⟨vp_in_nI (by omega) (by decide), ?_, mr_mk (by omega) hG hG2 ⟨fun j hj => hX.1 j (by omega), hX.2⟩ ⟨fun j hj => hX2.1 j (by omega), hX.2⟩⟩)⟩)
    rw [cc, hX.1 n (by omega), hX2.1 n (by omega)]
theorem i_vc_clear {k : Nat} {u : SX} {v : SY} (I : i_Rel k u v) (hk : k + 4 ≤ 2048) : wpX_clear (fun u' => wpY_clear (fun v' => i_Rel (k + 4) u' v') v) u := by
  obtain ⟨lv, kd, mn, T, n, K, L, M, K2, L2, M2, X, X2, wa, wb, wc, s, o, v, m, R, s2, v2, o2, fr, tu, kf, kt, pn, hn, hG, hG2, hX, hX2, rfl, rfl⟩ := I
  exact mr_mk (k := k + 4) (n := 0) (T := T) (by decide) hG hG2 ⟨fun j hj => absurd hj (by omega), hX.2⟩ ⟨fun j hj => absurd hj (by omega), hX.2⟩
theorem i_vc_size {k : Nat} {u : SX} {v : SY} (I : i_Rel k u v) (hk : k + 4 ≤ 2048) : wpX_size (fun r => wpY_size (fun r' => r' = r ∧ i_Rel (k + 4) u v) v) u := by
  obtain ⟨lv, kd, mn, T, n, K, L, M, K2, L2, M2, X, X2, wa, wb, wc, s, o, v, m, R, s2, v2, o2, fr, tu, kf, kt, pn, hn, hG, hG2, hX, hX2, rfl, rfl⟩ := I
  exact ⟨rfl, mr_mk hn hG hG2 hX hX2⟩
theorem mr_c1 {lv kd : Nat → Nat} {mn : Nat → Int32} {T : Nat → Nat} {n : Nat} {cb : Int} {S : Nat → Nat → Int} {V : Nat → Nat → Int32} {O : Nat → Nat → Int} (h : mx_T lv kd mn T n cb S V O) : S 0 n = -1 ∨ 0 ≤ S 0 n := by
  by_cases c : 0 < n
  · exact mx_C1 (h.2 0 n c (Nat.le_refl _))
  · exact Or.inl (h.1 0 n (by omega))
theorem i_vc_reads {k : Nat} {u : SX} {v : SY} (I : i_Rel k u v) (hk : k + 4 ≤ 2048) : wpX_reads (fun r u' => wpY_reads (fun r' v' => r' = r ∧ i_Rel (k + 4) u' v') v) u := by
  obtain ⟨lv, kd, mn, T, n, K, L, M, K2, L2, M2, X, X2, wa, wb, wc, s, o, v, m, R, s2, v2, o2, fr, tu, kf, kt, pn, hn, hG, hG2, hX, hX2, rfl, rfl⟩ := I
  refine mz_rtx hG rfl (by omega) hX (fun s' o' v' hT hd r hr => ?_)
  have c1 := mr_c1 hT
  rcases hr with ⟨rfl, hS⟩ | ⟨rfl, hS⟩
  · refine ⟨rfl, my_rtx (m := m) hG2 hn hX2 (fun R' t' w' p' hR hT' r' hr' => ?_)⟩
    have e := (mw_eq hG.1 hT hT' (i := 0) (j := n) (Nat.le_refl _)).1
    exact br_t ((my_lt0 hr').mpr (by omega)) ⟨rfl, mr_mk hn hG hG2 hX hX2⟩
  · refine ⟨rfl, my_rtx (m := m) hG2 hn hX2 (fun R' t' w' p' hR hT' r' hr' => ?_)⟩
    have e := (mw_eq hG.1 hT hT' (i := 0) (j := n) (Nat.le_refl _)).1
    exact my_if (my_lt0 hr') (fun c => by omega) (fun c => ⟨rfl, mr_mk hn hG hG2 hX hX2⟩)
theorem i_vc_strength {k : Nat} {u : SX} {v : SY} (I : i_Rel k u v) (hk : k + 4 ≤ 2048) : wpX_strength (fun r u' => wpY_strength (fun r' v' => r' = r ∧ i_Rel (k + 4) u' v') v) u := by
  obtain ⟨lv, kd, mn, T, n, K, L, M, K2, L2, M2, X, X2, wa, wb, wc, s, o, v, m, R, s2, v2, o2, fr, tu, kf, kt, pn, hn, hG, hG2, hX, hX2, rfl, rfl⟩ := I
  refine mz_rtx hG rfl (by omega) hX (fun s' o' v' hT hd r hr => ?_)
  have c1 := mr_c1 hT
  rcases hr with ⟨rfl, hS⟩ | ⟨rfl, hS⟩
  · refine br_t rfl (my_rtx (m := m) hG2 hn hX2 (fun R' t' w' p' hR hT' r' hr' => ?_))
    have e := (mw_eq hG.1 hT hT' (i := 0) (j := n) (Nat.le_refl _)).1
    exact my_if (my_le0 hr') (fun c => by omega) (fun c => ⟨rfl, mr_mk hn hG hG2 hX hX2⟩)
  · refine br_f (by decide) ⟨vp_in_nI (by omega) (by decide), my_rtx (m := m) hG2 hn hX2 (fun R' t' w' p' hR hT' r' hr' => ?_)⟩
    have e := (mw_eq hG.1 hT hT' (i := 0) (j := n) (Nat.le_refl _)).1
    have sd := mx_Sd hd (Nat.zero_le n) (by omega)
    have e0 : 17 * 0 + n = n := by omega
    rw [e0] at sd
    refine br_t ((my_le0 hr').mpr (by omega)) ⟨?_, mr_mk hn hG hG2 hX hX2⟩
    rw [nI_clamp (by omega), ← Int32.toInt_inj, hr', sd, e]
theorem i_vc_value {k : Nat} {u : SX} {v : SY} (I : i_Rel k u v) (hk : k + 4 ≤ 2048) : wpX_value (fun r u' => wpY_value (fun r' v' => r' = r ∧ i_Rel (k + 4) u' v') v) u := by
  obtain ⟨lv, kd, mn, T, n, K, L, M, K2, L2, M2, X, X2, wa, wb, wc, s, o, v, m, R, s2, v2, o2, fr, tu, kf, kt, pn, hn, hG, hG2, hX, hX2, rfl, rfl⟩ := I
  refine mz_rtx hG rfl (by omega) hX (fun s' o' v' hT hd r hr => ?_)
  have c1 := mr_c1 hT
  rcases hr with ⟨rfl, hS⟩ | ⟨rfl, hS⟩
  · refine br_t rfl (my_rtx (m := m) hG2 hn hX2 (fun R' t' w' p' hR hT' r' hr' => ?_))
    have e := (mw_eq hG.1 hT hT' (i := 0) (j := n) (Nat.le_refl _)).1
    exact my_if (my_le0 hr') (fun c => by omega) (fun c => ⟨rfl, mr_mk hn hG hG2 hX hX2⟩)
  · refine br_f (by decide) ⟨vp_in_nI (by omega) (by decide), my_rtx (m := m) hG2 hn hX2 (fun R' t' w' p' hR hT' r' hr' => ?_)⟩
    have e := mw_eq hG.1 hT hT' (i := 0) (j := n) (Nat.le_refl _)
    have e0 : 17 * 0 + n = n := by omega
    have ev : w' (17 * 0 + n) = v' (17 * 0 + n) := (e.2 (by omega)).1
    rw [e0] at ev
    refine br_t ((my_le0 hr').mpr (by omega)) ⟨vp_in_nI (by omega) (by decide), ?_, mr_mk hn hG hG2 hX hX2⟩
    rw [nI_clamp (by omega)]
    exact ev
theorem i_vc_root {k : Nat} {u : SX} {v : SY} (I : i_Rel k u v) (hk : k + 4 ≤ 2048) : wpX_root (fun r u' => wpY_root (fun r' v' => r' = r ∧ i_Rel (k + 4) u' v') v) u := by
  obtain ⟨lv, kd, mn, T, n, K, L, M, K2, L2, M2, X, X2, wa, wb, wc, s, o, v, m, R, s2, v2, o2, fr, tu, kf, kt, pn, hn, hG, hG2, hX, hX2, rfl, rfl⟩ := I
  refine mz_rtx hG rfl (by omega) hX (fun s' o' v' hT hd r hr => ?_)
  have c1 := mr_c1 hT
  rcases hr with ⟨rfl, hS⟩ | ⟨rfl, hS⟩
  · refine br_t rfl (my_rtx (m := m) hG2 hn hX2 (fun R' t' w' p' hR hT' r' hr' => ?_))
    have e := (mw_eq hG.1 hT hT' (i := 0) (j := n) (Nat.le_refl _)).1
    exact my_if (my_le0 hr') (fun c => by omega) (fun c => ⟨rfl, mr_mk hn hG hG2 hX hX2⟩)
  · have h0 : 0 ≤ mx_S s' 0 n := by omega
    have np := mx_ps hT h0
    obtain ⟨a, hx, hy⟩ := mw_root (wa := wa) (wb := wb) (wc := wc) (K := K) (L := L) (M := M) (X2 := X) hG.1 hT (by omega) n 0 (by omega) (by omega) h0
    refine br_f (by decide) ⟨n + 1, hx _ (my_rtx (m := m) hG2 hn hX2 (fun R' t' w' p' hR hT' r' hr' => ?_))⟩
    have e := (mw_eq hG.1 hT hT' (i := 0) (j := n) (Nat.le_refl _)).1
    exact br_t ((my_le0 hr').mpr (by omega)) ⟨n + 1, hy _ _ _ _ _ _ _ _ _ _ _ _ _ _ hT' _ ⟨rfl, mr_mk hn hG hG2 hX hX2⟩⟩
theorem i_vc_depth {k : Nat} {u : SX} {v : SY} (I : i_Rel k u v) (hk : k + 4 ≤ 2048) (v1 : Int32) : wpX_depth (fun r u' => wpY_depth (fun r' v' => r' = r ∧ i_Rel (k + 4) u' v') v v1) u v1 := by
  obtain ⟨lv, kd, mn, T, n, K, L, M, K2, L2, M2, X, X2, wa, wb, wc, s, o, v, m, R, s2, v2, o2, fr, tu, kf, kt, pn, hn, hG, hG2, hX, hX2, rfl, rfl⟩ := I
  have same := mr_mk (k := k + 4) (wa := wa) (wb := wb) (wc := wc) (s := s) (o := o) (v := v) (m := m) (R := R) (s2 := s2) (v2 := v2) (o2 := o2) (fr := fr) (tu := tu) (kf := kf) (kt := kt) (pn := pn) hn hG hG2 hX hX2
  by_cases c0 : v1 < 0
  · exact br_t c0 (br_t c0 ⟨rfl, same⟩)
  · obtain ⟨p, hp, rfl⟩ := nI_of c0
    by_cases cp : p < n
    · have x1 : ¬ nI n ≤ nI p := nI_ge cp (by omega)
      refine br_f c0 (br_f x1 (mz_rtx hG rfl (by omega) hX (fun s' o' v' hT hd r hr => ?_)))
      have c1 := mr_c1 hT
      rcases hr with ⟨rfl, hS⟩ | ⟨rfl, hS⟩
      · refine br_t rfl (br_f c0 (br_f x1 (my_rtx (m := m) hG2 hn hX2 (fun R' t' w' p' hR hT' r' hr' => ?_))))
        have e := (mw_eq hG.1 hT hT' (i := 0) (j := n) (Nat.le_refl _)).1
        exact my_if (my_le0 hr') (fun c => by omega) (fun c => ⟨rfl, mr_mk hn hG hG2 hX hX2⟩)
      · have h0 : 0 ≤ mx_S s' 0 n := by omega
        obtain ⟨d, f, t, q, hK⟩ := mx_Ke hT (by decide) (x := p) n 0 n 0 (by omega) (Nat.le_refl _) h0 (Nat.zero_le _) cp
        have kf' := mx_Kf hT (by decide) d 0 n 0 f t q (Nat.le_refl _) h0 (Nat.zero_le _) cp h0 (Int.le_refl _) hK
        refine br_f (by decide) (mw_wd (wa := wa) (wb := wb) (wc := wc) hG hT (by omega) hX h0 cp hK (fun w9 hw9 => br_f c0 (br_f x1 (my_rtx (m := m) hG2 hn hX2 (fun R' t' w' p' hR hT' r' hr' => ?_)))))
        have e := (mw_eq hG.1 hT hT' (i := 0) (j := n) (Nat.le_refl _)).1
        have hK' := mw_eqK hG.1 hT hT' (by decide) (by decide) (Nat.le_refl _) (by omega) (Nat.zero_le _) cp hK
        refine br_t ((my_le0 hr').mpr (by omega)) ⟨d + 1, mw_dY hT' (by omega) d 0 0 n 0 f t q (Nat.le_refl _) (by omega) (Nat.zero_le _) cp hK' (by omega) ?_⟩
        rw [Nat.zero_add]
        exact ⟨rfl, mr_mk hn hG hG2 hX hX2⟩
    · have x1 : nI n ≤ nI p := nI_le (by omega) hp
      exact br_f c0 (br_t x1 (br_f c0 (br_t x1 ⟨rfl, same⟩)))
theorem i_vc_spare {k : Nat} {u : SX} {v : SY} (I : i_Rel k u v) (hk : k + 4 ≤ 2048) : wpX_spare (fun r u' => wpY_spare (fun r' v' => r' = r ∧ i_Rel (k + 4) u' v') v) u := by
  obtain ⟨lv, kd, mn, T, n, K, L, M, K2, L2, M2, X, X2, wa, wb, wc, s, o, v, m, R, s2, v2, o2, fr, tu, kf, kt, pn, hn, hG, hG2, hX, hX2, rfl, rfl⟩ := I
  refine mz_rtx hG rfl (by omega) hX (fun s' o' v' hT hd r hr => ?_)
  have c1 := mr_c1 hT
  rcases hr with ⟨rfl, hS⟩ | ⟨rfl, hS⟩
  · refine br_t rfl (my_rtx (m := m) hG2 hn hX2 (fun R' t' w' p' hR hT' r' hr' => ?_))
    have e := (mw_eq hG.1 hT hT' (i := 0) (j := n) (Nat.le_refl _)).1
    exact my_if (my_le0 hr') (fun c => by omega) (fun c => ⟨rfl, mr_mk hn hG hG2 hX hX2⟩)
  · have h0 : 0 ≤ mx_S s' 0 n := by omega
    have HQ : ∀ p, p < n → T p = 18 → ∃ d g nd, mx_K lv kd T (mx_O o') p d 0 n 0 p (g + 1) nd ∧ p + 1 < g ∧ g < n ∧ T g = 19 ∧ 0 ≤ mx_S s' (p + 1) g ∧
        ((T p = 18 ∧ ∃ d g nd, mx_K lv kd T (mx_O o') p d 0 n 0 p (g + 1) nd ∧ nd ≤ mx_S s' (p + 1) g) ↔ nd ≤ mx_S s' (p + 1) g) := by
      intro p hp h18
      obtain ⟨d, f, t, q, hK⟩ := mx_Ke hT (by decide) (x := p) n 0 n 0 (by omega) (Nat.le_refl _) h0 (Nat.zero_le _) hp
      obtain ⟨w1, w2, w3, w4, w5, w6, w7, w8, w9⟩ := mx_Kf hT (by decide) d 0 n 0 f t q (Nat.le_refl _) h0 (Nat.zero_le _) hp h0 (Int.le_refl _) hK
      obtain ⟨y1, hB, y3⟩ := mx_fb hT (by decide) w2 w7 w3 w4 h18 w8
      obtain ⟨g, rfl⟩ : ∃ g, t = g + 1 := ⟨t - 1, by omega⟩
      subst y1
      obtain ⟨b1, b2, b3⟩ := hB
      rw [Nat.add_sub_cancel] at b2 b3 y3
      refine ⟨d, g, q, hK, y3, by omega, b2, b3, fun ⟨_, d', g', nd', hK', hle⟩ => ?_, fun hle => ⟨h18, d, g, q, hK, hle⟩⟩
      obtain ⟨e1, e2, e3⟩ := mw_Ku _ _ _ _ _ _ _ _ _ _ _ hK hK'
      have e4 : g' = g := by omega
      rw [e3, e4] at hle
      exact hle
    refine br_f (by decide) ⟨n + 1, mv_18 (Q := fun p => T p = 18 ∧ ∃ d g nd, mx_K lv kd T (mx_O o') p d 0 n 0 p (g + 1) nd ∧ nd ≤ mx_S s' (p + 1) g) hG hT hn hX h0 (fun p hp h18 => ?_) (fun p _ hne z => hne z.1) (fun wa' wb' wc' => ?_) n 0 wa wb wc (by omega)⟩
    · obtain ⟨d, g, nd, k1, k2, k3, k4, k5, k6⟩ := HQ p hp h18
      exact ⟨d, g, nd, k1, k2, k3, k6⟩
    · refine my_rtx (m := m) hG2 hn hX2 (fun R' t' w' p' hR hT' r' hr' => ?_)
      have es := fun (i j : Nat) (hj : j ≤ n) => (mw_eq hG.1 hT hT' (i := i) (j := j) hj).1
      have e := es 0 n (Nat.le_refl _)
      refine br_t ((my_le0 hr').mpr (by omega)) (mf_fs hT' (by omega) (by omega) (fun fr' tu' pn' hfr => ⟨n + 1, mf_16 hn (fun kf' kt' hkt => ⟨n + 1, ?_⟩) n 0 kf kt (by omega) (fun y hy => absurd hy (by omega))⟩))
      refine mf_58 hG2 hn hX2 hT' (by omega) (fun x f t x1 x2 x3 hN => ?_) (Q := fun p => T p = 18 ∧ ∃ d g nd, mx_K lv kd T (mx_O o') p d 0 n 0 p (g + 1) nd ∧ nd ≤ mx_S s' (p + 1) g) (fun p hp h18 => ?_) (fun p _ hne z => hne z.1) (fun m' R9 s9 v9 o9 fr9 tu9 pn9 => ⟨rfl, mr_mk hn hG hG2 hX hX2⟩) n 0 _ _ _ _ _ _ _ _ (by omega)
      · rw [(hkt x x1).1, (hkt x x1).2]
        exact hfr x f t x1 x2 x3 hN
      · obtain ⟨d, g, nd, k1, k2, k3, k4, k5, k6⟩ := HQ p hp h18
        refine ⟨d, g, nd, mw_eqK hG.1 hT hT' (by decide) (by decide) (Nat.le_refl _) (by omega) (Nat.zero_le _) hp k1, k2, k3, k4, ?_, ?_⟩
        · rw [es (p + 1) g (by omega)]
          exact k5
        · rw [es (p + 1) g (by omega)]
          exact k6
theorem i_vc_endings {k : Nat} {u : SX} {v : SY} (I : i_Rel k u v) (hk : k + 4 ≤ 2048) : wpX_endings (fun r u' => wpY_endings (fun r' v' => r' = r ∧ i_Rel (k + 4) u' v') v) u := by
  obtain ⟨lv, kd, mn, T, n, K, L, M, K2, L2, M2, X, X2, wa, wb, wc, s, o, v, m, R, s2, v2, o2, fr, tu, kf, kt, pn, hn, hG, hG2, hX, hX2, rfl, rfl⟩ := I
  refine ⟨20 + 1, me_X hG hn hX.2 (fun X' s' o' v' hX' => ⟨20 + 1, me_Y hG2 hn hX2 (fun m' R' t' w' p' => ⟨rfl, mr_mk hn hG hG2 ⟨hX', hX.2⟩ hX2⟩) 20 0 m R s2 v2 o2 (by decide)⟩) 20 0 X s o v (by decide) hX.1⟩
end
