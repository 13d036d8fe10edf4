/-! a pair of brackets at p and g is taken out: place x of the text becomes mx_o p g x -/
def mx_o (p g x : Nat) : Nat := x - (if p < x then 1 else 0) - (if g < x then 1 else 0)
theorem mx_o1 {p g x : Nat} (hp : p < g) (h : x ≤ p) : mx_o p g x = x := by
  unfold mx_o
  rw [if_neg (by omega), if_neg (by omega)]
  rfl
theorem mx_o2 {p g x : Nat} (h1 : p < x) (h2 : x ≤ g) : mx_o p g x = x - 1 := by
  unfold mx_o
  rw [if_pos h1, if_neg (by omega)]
  rfl
theorem mx_o3 {p g x : Nat} (hp : p < g) (h : g < x) : mx_o p g x = x - 2 := by
  unfold mx_o
  rw [if_pos (by omega), if_pos h]
  rfl
/-- the text without the pair -/
def mx_Q (T T' : Nat → Nat) (p g n : Nat) : Prop :=
  p + 1 < g ∧ g < n ∧ (∀ x, x < p → T' x = T x) ∧ (∀ x, p ≤ x → x < g - 1 → T' x = T (x + 1)) ∧ (∀ x, g - 1 ≤ x → x < n - 2 → T' x = T (x + 2))
theorem mx_Qo {T T' : Nat → Nat} {p g n x : Nat} (h : mx_Q T T' p g n) (hx : x < n) (h1 : x ≠ p) (h2 : x ≠ g) : T' (mx_o p g x) = T x := by
  obtain ⟨q1, q2, q3, q4, q5⟩ := h
  by_cases c1 : x < p
  · rw [mx_o1 (by omega) (by omega)]
    exact q3 x c1
  · by_cases c2 : x < g
    · rw [mx_o2 (by omega) (by omega), q4 (x - 1) (by omega) (by omega)]
      exact congrArg T (by omega)
    · rw [mx_o3 (by omega) (by omega), q5 (x - 2) (by omega) (by omega)]
      exact congrArg T (by omega)
section
variable {lv kd : Nat → Nat} {mn : Nat → Int32} {T T' : Nat → Nat} {n p g : Nat} {cb cb' : Int} {S S' : Nat → Nat → Int} {V V' : Nat → Nat → Int32} {O O' : Nat → Nat → Int}
/-- spans that the pair isn't in -/
theorem mx_av (hk : ∀ k, kd k < 5) (h : mx_T lv kd mn T n cb S V O) (h' : mx_T lv kd mn T' (n - 2) cb' S' V' O') (hcb : cb < 0) (hcb' : cb' < 0) (hQ : mx_Q T T' p g n)
    {i j : Nat} (hj : j ≤ n) (hij : i < j) (hd : j ≤ p ∨ (p < i ∧ j ≤ g) ∨ g < i) :
    S' (mx_o p g i) (mx_o p g j) = S i j ∧ (0 ≤ S i j → ∀ x f t, i ≤ x → x < j → mx_N lv kd T O x i j f t →
      mx_N lv kd T' O' (mx_o p g x) (mx_o p g i) (mx_o p g j) (mx_o p g f) (mx_o p g t)) := by
  obtain ⟨q1, q2, q3, q4, q5⟩ := hQ
  have fin : ∀ x f t, 0 ≤ S i j → i ≤ x → x < j → mx_N lv kd T O x i j f t → i ≤ f ∧ t ≤ j ∧ f ≤ x ∧ x < t := by
    intro x f t h0 h1 h2 hN
    obtain ⟨d, m, q, hK⟩ := hN
    obtain ⟨q', hK'⟩ := mx_Km 0 hK
    obtain ⟨a1, a2, a3, a4, _⟩ := mx_Kf h hcb d i j 0 f t q' hj h0 h1 h2 h0 (Int.le_refl _) hK'
    exact ⟨a1, a2, a3, a4⟩
  rcases hd with hd | ⟨hd1, hd2⟩ | hd
  · have hT : ∀ x, 0 ≤ x → x < p → T' x = T (x + 0) := fun x _ z => q3 x z
    have tr := mx_tr hk h h' (a := 0) (b := p) (c := 0) (by omega) (by omega) hT j i j (by omega) (by omega) hd
    rw [mx_o1 (by omega) (by omega), mx_o1 (by omega) hd]
    refine ⟨tr.1, fun h0 x f t h1 h2 hN => ?_⟩
    obtain ⟨a1, a2, a3, a4⟩ := fin x f t h0 h1 h2 hN
    obtain ⟨f', t', e1, e2, hN'⟩ := mx_tN hk h h' hcb hcb' (a := 0) (b := p) (c := 0) (x := x) (i := i) (j := j) (by omega) (by omega) hT (by omega) hd (by rw [tr.1]; exact h0) h1 h2 hN
    rw [mx_o1 (by omega) (by omega), mx_o1 (by omega) (by omega), mx_o1 (by omega) (by omega)]
    have e1' : f = f' := e1
    have e2' : t = t' := e2
    rw [e1', e2']
    exact hN'
  · obtain ⟨i0, rfl⟩ : ∃ i0, i = i0 + 1 := ⟨i - 1, by omega⟩
    obtain ⟨j0, rfl⟩ : ∃ j0, j = j0 + 1 := ⟨j - 1, by omega⟩
    have tr := mx_tr hk h h' (a := p) (b := g - 1) (c := 1) (by omega) (by omega) q4 j0 i0 j0 (by omega) (by omega) (by omega)
    have oi : mx_o p g (i0 + 1) = i0 := mx_o2 (by omega) (by omega)
    have oj : mx_o p g (j0 + 1) = j0 := mx_o2 (by omega) (by omega)
    rw [oi, oj]
    refine ⟨tr.1, fun h0 x f t h1 h2 hN => ?_⟩
    obtain ⟨a1, a2, a3, a4⟩ := fin x f t h0 h1 h2 hN
    obtain ⟨x0, rfl⟩ : ∃ x0, x = x0 + 1 := ⟨x - 1, by omega⟩
    obtain ⟨f', t', e1, e2, hN'⟩ := mx_tN hk h h' hcb hcb' (a := p) (b := g - 1) (c := 1) (x := x0) (i := i0) (j := j0) (by omega) (by omega) q4 (by omega) (by omega) (by rw [tr.1]; exact h0) (by omega) (by omega) hN
    subst e1 e2
    have ox : mx_o p g (x0 + 1) = x0 := mx_o2 (by omega) (by omega)
    have ef : mx_o p g (f' + 1) = f' := mx_o2 (by omega) (by omega)
    have ot : mx_o p g (t' + 1) = t' := mx_o2 (by omega) (by omega)
    rw [ox, ef, ot]
    exact hN'
  · obtain ⟨i0, rfl⟩ : ∃ i0, i = i0 + 2 := ⟨i - 2, by omega⟩
    obtain ⟨j0, rfl⟩ : ∃ j0, j = j0 + 2 := ⟨j - 2, by omega⟩
    have tr := mx_tr hk h h' (a := g - 1) (b := n - 2) (c := 2) (by omega) (by omega) q5 j0 i0 j0 (by omega) (by omega) (by omega)
    have oi : mx_o p g (i0 + 2) = i0 := mx_o3 (by omega) (by omega)
    have oj : mx_o p g (j0 + 2) = j0 := mx_o3 (by omega) (by omega)
    rw [oi, oj]
    refine ⟨tr.1, fun h0 x f t h1 h2 hN => ?_⟩
    obtain ⟨a1, a2, a3, a4⟩ := fin x f t h0 h1 h2 hN
    obtain ⟨x0, rfl⟩ : ∃ x0, x = x0 + 2 := ⟨x - 2, by omega⟩
    obtain ⟨f', t', e1, e2, hN'⟩ := mx_tN hk h h' hcb hcb' (a := g - 1) (b := n - 2) (c := 2) (x := x0) (i := i0) (j := j0) (by omega) (by omega) q5 (by omega) (by omega) (by rw [tr.1]; exact h0) (by omega) (by omega) hN
    subst e1 e2
    have ox : mx_o p g (x0 + 2) = x0 := mx_o3 (by omega) (by omega)
    have ef : mx_o p g (f' + 2) = f' := mx_o3 (by omega) (by omega)
    have ot : mx_o p g (t' + 2) = t' := mx_o3 (by omega) (by omega)
    rw [ox, ef, ot]
    exact hN'
/-- if what is within is strong enough, all that is around the pair stays as it was -/
theorem mx_kp (hk : ∀ k, kd k < 5) (h : mx_T lv kd mn T n cb S V O) (h' : mx_T lv kd mn T' (n - 2) cb' S' V' O') (hcb : cb < 0) (hcb' : cb' < 0) (hQ : mx_Q T T' p g n)
    (h18 : T p = 18) (h19 : T g = 19) {nd : Int} (hn : nd ≤ S (p + 1) g) :
    ∀ d i j m, j ≤ n → m ≤ S i j → 0 ≤ m → i ≤ p → p < j → mx_K lv kd T O p d i j m p (g + 1) nd →
      m ≤ S' (mx_o p g i) (mx_o p g j) ∧ ∀ x f t, i ≤ x → x < j → 10 ≤ T x → T x < 18 → mx_N lv kd T O x i j f t →
      mx_N lv kd T' O' (mx_o p g x) (mx_o p g i) (mx_o p g j) (mx_o p g f) (mx_o p g t) := by
  have q1 := hQ.1
  have q2 := hQ.2.1
  have xp : ∀ x, 10 ≤ T x → T x < 18 → x ≠ p ∧ x ≠ g := by
    intro x x1 x2
    constructor
    · intro e
      rw [e] at x2
      omega
    · intro e
      rw [e] at x2
      omega
  have op1 : mx_o p g p = p := mx_o1 (by omega) (by omega)
  have ogg : mx_o p g g = g - 1 := mx_o2 (by omega) (by omega)
  have og1 : mx_o p g (g + 1) = g - 1 := by
    rw [mx_o3 (by omega) (by omega)]
    omega
  have opp : mx_o p g (p + 1) = p := mx_o2 (by omega) (by omega)
  intro d
  induction d with
  | zero =>
    intro i j m hj h1 h2 h3 h4 hK
    obtain ⟨k1, k2, k3, k4⟩ := hK
    subst k2 k3 k4
    obtain ⟨v1, v2⟩ := mx_av hk h h' hcb hcb' hQ (i := p + 1) (j := g) (by omega) (by omega) (by omega)
    rw [opp, ogg] at v1 v2
    rw [op1, og1]
    refine ⟨by omega, fun x f t x1 x2 x3 x4 hN => ?_⟩
    obtain ⟨y1, y2⟩ := xp x x3 x4
    have i0 : 0 ≤ S (p + 1) g := by omega
    obtain ⟨hij, c⟩ := mx_vw h (i := p) hj (by omega)
    have o : O p (g + 1) < 0 := by
      rcases c with ⟨a1, a2, a3, a4⟩ | ⟨hB, a3, a4, a5⟩ | ⟨r, hF, a3, a4⟩
      · omega
      · omega
      · exfalso
        have b1 := hF.1
        have b2 := hF.2.1
        have b4 := hF.2.2.2.1
        by_cases e1 : p < r
        · rw [mx_sL a3 e1] at k1
          cases k1
        · have e2 : r = p := by omega
          rw [e2] at b4
          omega
    exact v2 i0 x f t (by omega) (by omega) (mx_N2 (mx_sB o y1 (by omega)) hN)
  | succ d ih =>
    intro i j m hj h1 h2 h3 h4 hK
    obtain ⟨i', j', m', e, hK⟩ := hK
    obtain ⟨b1, b2, b3, b4, b5, b6, b7⟩ := mx_pg h hcb hj (by omega) h3 h4 e
    obtain ⟨I1, I2⟩ := ih i' j' m' (by omega) b7 b6 b3 b4 hK
    obtain ⟨w1, w2, w3, w4, _⟩ := mx_Kf h hcb d i' j' m' p (g + 1) nd (by omega) (by omega) b3 b4 b7 b6 hK
    obtain ⟨hij, c⟩ := mx_vw h (i := i) hj (by omega)
    rcases c with ⟨a1, a2, a3, a4⟩ | ⟨hB, a3, a4, a5⟩ | ⟨r, hF, a3, a4⟩
    · rw [mx_sN (by omega) (by omega)] at e
      cases e
    · by_cases z : p = i ∨ p + 1 = j
      · rw [mx_sN (by omega) z] at e
        cases e
      · rw [mx_sB (by omega) (by omega) (by omega)] at e
        obtain ⟨rfl, rfl, rfl⟩ := mx_s3 e
        have oi : mx_o p g i = i := mx_o1 (by omega) (by omega)
        have oi1 : mx_o p g (i + 1) = i + 1 := mx_o1 (by omega) (by omega)
        have oj : mx_o p g j = j - 2 := mx_o3 (by omega) (by omega)
        have oj1 : mx_o p g (j - 1) = j - 2 - 1 := by
          rw [mx_o3 (by omega) (by omega)]
          omega
        rw [oi1, oj1] at I1 I2
        have t1 := mx_Qo hQ (x := i) (by omega) (by omega) (by omega)
        have t2 := mx_Qo hQ (x := j - 1) (by omega) (by omega) (by omega)
        rw [oi] at t1
        rw [oj1] at t2
        have hB' : mx_B T' S' i (j - 2) := ⟨t1.trans hB.1, t2.trans hB.2.1, I1⟩
        obtain ⟨y3, y4, _⟩ := mx_rdB h' (by omega) hB'
        rw [oi, oj]
        refine ⟨by omega, fun x f t x1 x2 x3 x4 hN => ?_⟩
        have xi : x ≠ i := by
          intro e
          rw [e] at x4
          have := hB.1
          omega
        have xj : x ≠ j - 1 := by
          intro e
          rw [e] at x4
          have := hB.2.1
          omega
        obtain ⟨y1, y2⟩ := xp x x3 x4
        have n1 := I2 x f t (by omega) (by omega) x3 x4 (mx_N2 (mx_sB (by omega) xi (by omega)) hN)
        refine mx_N1 (mx_sB (by omega) ?_ ?_) n1
        · by_cases c1 : x ≤ p
          · rw [mx_o1 (by omega) c1]
            omega
          · by_cases c2 : x ≤ g
            · rw [mx_o2 (by omega) c2]
              omega
            · rw [mx_o3 (by omega) (by omega)]
              omega
        · by_cases c1 : x ≤ p
          · rw [mx_o1 (by omega) c1]
            omega
          · by_cases c2 : x ≤ g
            · rw [mx_o2 (by omega) c2]
              omega
            · rw [mx_o3 (by omega) (by omega)]
              omega
    · have p1 := hF.1
      have p2 := hF.2.1
      have p3 := hF.2.2.1
      have p4 := hF.2.2.2.1
      have hl := hF.2.2.2.2.1
      have hr := hF.2.2.2.2.2
      have g1 := mx_n1g kd (lv (T r))
      have g2 := mx_n2g kd (lv (T r))
      obtain ⟨z1, z2⟩ := xp r p3 p4
      have tr := mx_Qo hQ (x := r) (by omega) z1 z2
      by_cases e1 : p < r
      · rw [mx_sL a3 e1] at e
        obtain ⟨rfl, rfl, rfl⟩ := mx_s3 e
        have oi : mx_o p g i = i := mx_o1 (by omega) (by omega)
        have oj : mx_o p g j = j - 2 := mx_o3 (by omega) (by omega)
        have er : mx_o p g r = r - 2 := mx_o3 (by omega) (by omega)
        have er1 : r + 1 < j → mx_o p g (r + 1) = r - 2 + 1 := fun _ => by
          rw [mx_o3 (by omega) (by omega)]
          omega
        rw [oi, er] at I1 I2
        rw [er] at tr
        have F' : mx_F lv kd T' S' i (r - 2) (j - 2) := by
          refine mx_Ft hF (by omega) (by omega) tr (by omega) (by omega) (fun _ _ => I1) (fun _ u => ?_)
          have lt : r + 1 < j := mx_ps h (by omega)
          have v := (mx_av hk h h' hcb hcb' hQ (i := r + 1) (j := j) hj lt (by omega)).1
          rw [er1 lt, oj] at v
          rw [v]
          exact u
        obtain ⟨y3, y4, _⟩ := mx_rdF hk h' (by omega) F'
        rw [tr] at y3
        rw [oi, oj]
        refine ⟨by omega, fun x f t x1 x2 x3 x4 hN => ?_⟩
        obtain ⟨u1, u2⟩ := xp x x3 x4
        by_cases c1 : x < r
        · have n1 := I2 x f t x1 c1 x3 x4 (mx_N2 (mx_sL a3 c1) hN)
          refine mx_N1 (mx_sL y4 ?_) n1
          by_cases c2 : x ≤ p
          · rw [mx_o1 (by omega) c2]
            omega
          · by_cases c3 : x ≤ g
            · rw [mx_o2 (by omega) c3]
              omega
            · rw [mx_o3 (by omega) (by omega)]
              omega
        · by_cases c2 : x = r
          · subst c2
            obtain ⟨n1, n2⟩ := mx_N3 (mx_sE a3) hN
            rw [n1, n2, er, oi, oj]
            exact mx_N0 (mx_sE y4)
          · have lt : r + 1 < j := by omega
            have n1 := (mx_av hk h h' hcb hcb' hQ (i := r + 1) (j := j) hj lt (by omega)).2 (by omega) x f t (by omega) x2 (mx_N2 (mx_sR a3 (by omega)) hN)
            rw [er1 lt, oj] at n1
            refine mx_N1 (mx_sR y4 ?_) n1
            rw [mx_o3 (by omega) (by omega)]
            omega
      · by_cases e2 : p = r
        · rw [e2, mx_sE a3] at e
          cases e
        · rw [mx_sR a3 (by omega)] at e
          obtain ⟨rfl, rfl, rfl⟩ := mx_s3 e
          have oi : mx_o p g i = i := mx_o1 (by omega) (by omega)
          have oj : mx_o p g j = j - 2 := mx_o3 (by omega) (by omega)
          have er : mx_o p g r = r := mx_o1 (by omega) (by omega)
          have er1 : mx_o p g (r + 1) = r + 1 := mx_o1 (by omega) (by omega)
          rw [er1, oj] at I1 I2
          rw [er] at tr
          have F' : mx_F lv kd T' S' i r (j - 2) := by
            refine mx_Ft hF (by omega) (by omega) tr (by omega) (by omega) (fun _ u => ?_) (fun _ _ => I1)
            have lt : i < r := mx_ps h (by omega)
            have v := (mx_av hk h h' hcb hcb' hQ (i := i) (j := r) (by omega) lt (by omega)).1
            rw [oi, er] at v
            rw [v]
            exact u
          obtain ⟨y3, y4, _⟩ := mx_rdF hk h' (by omega) F'
          rw [tr] at y3
          rw [oi, oj]
          refine ⟨by omega, fun x f t x1 x2 x3 x4 hN => ?_⟩
          obtain ⟨u1, u2⟩ := xp x x3 x4
          by_cases c1 : x < r
          · have lt : i < r := by omega
            have n1 := (mx_av hk h h' hcb hcb' hQ (i := i) (j := r) (by omega) lt (by omega)).2 (by omega) x f t x1 c1 (mx_N2 (mx_sL a3 c1) hN)
            rw [oi, er] at n1
            refine mx_N1 (mx_sL y4 ?_) n1
            rw [mx_o1 (by omega) (by omega)]
            exact c1
          · by_cases c2 : x = r
            · subst c2
              obtain ⟨n1, n2⟩ := mx_N3 (mx_sE a3) hN
              rw [n1, n2, er, oi, oj]
              exact mx_N0 (mx_sE y4)
            · have n1 := I2 x f t (by omega) x2 x3 x4 (mx_N2 (mx_sR a3 (by omega)) hN)
              refine mx_N1 (mx_sR y4 ?_) n1
              by_cases c3 : x ≤ p
              · rw [mx_o1 (by omega) c3]
                omega
              · by_cases c4 : x ≤ g
                · rw [mx_o2 (by omega) c4]
                  omega
                · rw [mx_o3 (by omega) (by omega)]
                  omega
/-- the pair could go just when what is within is as strong as its place asks for -/
theorem mx_sp (hk : ∀ k, kd k < 5) (h : mx_T lv kd mn T n cb S V O) (h' : mx_T lv kd mn T' (n - 2) cb' S' V' O') (hcb : cb < 0) (hcb' : cb' < 0) (hQ : mx_Q T T' p g n)
    (h18 : T p = 18) (h19 : T g = 19) (hi : 0 ≤ S (p + 1) g) (h0 : 0 ≤ S 0 n) {nd : Int} {d : Nat} (hK : mx_K lv kd T O p d 0 n 0 p (g + 1) nd) :
    nd ≤ S (p + 1) g ↔ (0 ≤ S' 0 (n - 2) ∧ ∀ x f t f' t', x < n → 10 ≤ T x → T x < 18 → mx_N lv kd T O x 0 n f t → mx_N lv kd T' O' (mx_o p g x) 0 (n - 2) f' t' → f' = mx_o p g f ∧ t' = mx_o p g t) := by
  have q1 := hQ.1
  have q2 := hQ.2.1
  have o0 : mx_o p g 0 = 0 := mx_o1 (by omega) (by omega)
  have en : mx_o p g n = n - 2 := mx_o3 (by omega) (by omega)
  constructor
  · intro hn
    obtain ⟨I1, I2⟩ := mx_kp hk h h' hcb hcb' hQ h18 h19 hn d 0 n 0 (Nat.le_refl _) h0 (Int.le_refl _) (by omega) (by omega) hK
    rw [o0, en] at I1 I2
    refine ⟨I1, fun x f t f' t' x1 x2 x3 hN hN' => ?_⟩
    obtain ⟨d2, m2, q2, hK2⟩ := I2 x f t (by omega) x1 x2 x3 hN
    exact mx_Nu d2 0 (n - 2) m2 _ _ q2 f' t' hK2 hN'
  · intro ⟨hS', hc⟩
    rcases mx_bk h hcb d 0 n 0 (Nat.le_refl _) h0 (by omega) (by omega) hK with ⟨c1, _, _⟩ | c1 | ⟨r, f, t, r1, r2, r3, r4, r5, r6⟩
    · omega
    · omega
    · have z1 : r ≠ p := by
        intro e
        rw [e] at r4
        omega
      have z2 : r ≠ g := by
        intro e
        rw [e] at r4
        omega
      have tr := mx_Qo hQ (x := r) r2 z1 z2
      have lr : mx_o p g r < n - 2 := by
        by_cases c2 : r ≤ p
        · rw [mx_o1 (by omega) c2]
          omega
        · by_cases c3 : r ≤ g
          · rw [mx_o2 (by omega) c3]
            omega
          · rw [mx_o3 (by omega) (by omega)]
            omega
      obtain ⟨d', f', t', q', hK'⟩ := mx_Ke h' hcb' (x := mx_o p g r) (n - 2) 0 (n - 2) 0 (by omega) (Nat.le_refl _) hS' (by omega) lr
      obtain ⟨e1, e2⟩ := hc r f t f' t' r2 r3 r4 r5 ⟨d', 0, q', hK'⟩
      obtain ⟨w1, w2, w3, w4, w5, w6, w7, w8, _⟩ := mx_Kf h' hcb' d' 0 (n - 2) 0 f' t' q' (Nat.le_refl _) hS' (by omega) lr hS' (Int.le_refl _) hK'
      obtain ⟨_, F'⟩ := mx_fo h' hcb' w2 w7 w3 w4 (by rw [tr]; exact r3) (by rw [tr]; exact r4) w8
      obtain ⟨_, _, _, _, hl, hr⟩ := F'
      rw [tr] at hl hr
      have v := (mx_av hk h h' hcb hcb' hQ (i := p + 1) (j := g) (by omega) (by omega) (by omega)).1
      have opp : mx_o p g (p + 1) = p := mx_o2 (by omega) (by omega)
      have ogg : mx_o p g g = g - 1 := mx_o2 (by omega) (by omega)
      have op1 : mx_o p g p = p := mx_o1 (by omega) (by omega)
      have og1 : mx_o p g (g + 1) = g - 1 := by
        rw [mx_o3 (by omega) (by omega)]
        omega
      rw [opp, ogg] at v
      rcases r6 with ⟨s1, s2, s3, s4⟩ | ⟨s1, s2, s3, s4⟩
      · rcases hl with ⟨y1, _⟩ | ⟨_, y2⟩
        · exact (s4 y1).elim
        · rw [e1, s1, s2, op1, og1, v] at y2
          rw [s2] at s3
          omega
      · rcases hr with ⟨y1, _⟩ | ⟨_, y2⟩
        · exact (s4 y1).elim
        · have er : mx_o p g r = r := mx_o1 (by omega) (by omega)
          rw [e2, s2, er, s1, og1, v] at y2
          omega
end
