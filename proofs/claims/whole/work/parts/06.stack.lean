/-! the reference's stack of spans: a list, its top first -/
def mx_L (a : Nat → Int32) : List (Nat × Nat) → Prop
  | [] => True
  | x :: l => a l.length = nI (17 * x.1 + x.2) ∧ mx_L a l
theorem mx_Lu {a : Nat → Int32} {k : Nat} {v : Int32} : ∀ {l : List (Nat × Nat)}, mx_L a l → l.length ≤ k → mx_L (upd a k v) l := by
  intro l
  induction l with
  | nil => intro _ _; trivial
  | cons x l ih =>
    intro h hk
    have hk' : l.length + 1 ≤ k := hk
    refine ⟨?_, ih h.2 (by omega)⟩
    rw [pk_un (by omega)]
    exact h.1
theorem mx_Lp {a : Nat → Int32} {l : List (Nat × Nat)} {i j : Nat} (h : mx_L a l) : mx_L (upd a l.length (nI (17 * i + j))) ((i, j) :: l) :=
  ⟨pk_us, mx_Lu h (Nat.le_refl _)⟩
def mx_Z : List (Nat × Nat) → Nat
  | [] => 0
  | x :: l => (x.2 - x.1) + mx_Z l
def mx_I (lv kd T : Nat → Nat) (n : Nat) (S : Nat → Nat → Int) (O : Nat → Nat → Int) (fr tu : Nat → Int32) (l : List (Nat × Nat)) : Prop :=
  (∀ e, e ∈ l → e.1 < e.2 ∧ e.2 ≤ n ∧ 0 ≤ S e.1 e.2 ∧ ∀ x f t, e.1 ≤ x → x < e.2 → mx_N lv kd T O x 0 n f t → mx_N lv kd T O x e.1 e.2 f t) ∧
  (∀ x, x < n → 10 ≤ T x → T x < 18 → (∃ e, e ∈ l ∧ e.1 ≤ x ∧ x < e.2) ∨ ∀ f t, mx_N lv kd T O x 0 n f t → fr x = nI f ∧ tu x = nI t)
theorem mx_Il : ∀ {l : List (Nat × Nat)}, (∀ e, e ∈ l → e.1 < e.2) → l.length ≤ mx_Z l := by
  intro l
  induction l with
  | nil => intro _; exact Nat.le_refl _
  | cons x l ih =>
    intro h
    have h1 := h x (List.mem_cons_self ..)
    have h2 := ih (fun e he => h e (List.mem_cons_of_mem _ he))
    show l.length + 1 ≤ (x.2 - x.1) + mx_Z l
    omega
section
variable {lv kd : Nat → Nat} {mn : Nat → Int32} {T : Nat → Nat} {n : Nat} {cb : Int} {S : Nat → Nat → Int} {V : Nat → Nat → Int32} {O : Nat → Nat → Int} {fr tu : Nat → Int32} {l : List (Nat × Nat)} {i j : Nat}
theorem mx_I0 (h0 : 0 ≤ S 0 n) (hn : 0 < n) : mx_I lv kd T n S O fr tu [(0, n)] := by
  refine ⟨fun e he => ?_, fun x hx _ _ => Or.inl ⟨(0, n), List.mem_cons_self .., Nat.zero_le _, hx⟩⟩
  have e1 : e = (0, n) := List.mem_singleton.mp he
  subst e1
  exact ⟨hn, Nat.le_refl _, h0, fun x f t _ _ z => z⟩
theorem mx_IN (h : mx_T lv kd mn T n cb S V O) (hI : mx_I lv kd T n S O fr tu ((i, j) :: l)) (h1 : j = i + 1) (h2 : T i < 10) : mx_I lv kd T n S O fr tu l := by
  refine ⟨fun e he => hI.1 e (List.mem_cons_of_mem _ he), fun x hx x1 x2 => ?_⟩
  rcases hI.2 x hx x1 x2 with ⟨e, he, c1, c2⟩ | c
  · rcases List.mem_cons.mp he with c3 | c3
    · subst c3
      have e1 : x = i := by
        have c1' : i ≤ x := c1
        have c2' : x < j := c2
        omega
      rw [e1] at x1
      omega
    · exact Or.inl ⟨e, c3, c1, c2⟩
  · exact Or.inr c
theorem mx_IB (h : mx_T lv kd mn T n cb S V O) (hcb : cb < 0) (hI : mx_I lv kd T n S O fr tu ((i, j) :: l)) (hB : mx_B T S i j) (ho : O i j = cb) : mx_I lv kd T n S O fr tu ((i + 1, j - 1) :: l) := by
  obtain ⟨t1, t2, t3, t40⟩ := hI.1 (i, j) (List.mem_cons_self ..)
  have t2' : j ≤ n := t2
  have t4 : ∀ x f t, i ≤ x → x < j → mx_N lv kd T O x 0 n f t → mx_N lv kd T O x i j f t := t40
  have z := mx_ps h hB.2.2
  refine ⟨fun e he => ?_, fun x hx x1 x2 => ?_⟩
  · rcases List.mem_cons.mp he with c | c
    · subst c
      refine ⟨z, by show j - 1 ≤ n; omega, hB.2.2, fun x f t x1 x2 hN => ?_⟩
      have x1' : i + 1 ≤ x := x1
      have x2' : x < j - 1 := x2
      exact mx_N2 (mx_sB (by omega) (by omega) (by omega)) (t4 x f t (by show i ≤ x; omega) (by show x < j; omega) hN)
    · exact hI.1 e (List.mem_cons_of_mem _ c)
  · rcases hI.2 x hx x1 x2 with ⟨e, he, c1, c2⟩ | c
    · rcases List.mem_cons.mp he with c3 | c3
      · subst c3
        have c1' : i ≤ x := c1
        have c2' : x < j := c2
        have n1 : x ≠ i := by
          intro e
          rw [e] at x2
          have := hB.1
          omega
        have n2 : x ≠ j - 1 := by
          intro e
          rw [e] at x2
          have := hB.2.1
          omega
        exact Or.inl ⟨(i + 1, j - 1), List.mem_cons_self .., by show i + 1 ≤ x; omega, by show x < j - 1; omega⟩
      · exact Or.inl ⟨e, List.mem_cons_of_mem _ c3, c1, c2⟩
    · exact Or.inr c
theorem mx_IF {r : Nat} {L : List (Nat × Nat)} (hI : mx_I lv kd T n S O fr tu ((i, j) :: l)) (hF : mx_F lv kd T S i r j) (ho : O i j = (r : Int))
    (hL : ∀ e, e ∈ L → e ∈ l ∨ (e = (i, r) ∧ i < r) ∨ (e = (r + 1, j) ∧ r + 1 < j)) (hl : ∀ e, e ∈ l → e ∈ L) (hl1 : i < r → (i, r) ∈ L) (hl2 : r + 1 < j → (r + 1, j) ∈ L) :
    mx_I lv kd T n S O (upd fr r (nI i)) (upd tu r (nI j)) L := by
  obtain ⟨t1, t2, t3, t40⟩ := hI.1 (i, j) (List.mem_cons_self ..)
  have t2' : j ≤ n := t2
  have t4 : ∀ x f t, i ≤ x → x < j → mx_N lv kd T O x 0 n f t → mx_N lv kd T O x i j f t := t40
  obtain ⟨p1, p2, p3, p4, q1, q2⟩ := hF
  have g1 := mx_n1g kd (lv (T r))
  have g2 := mx_n2g kd (lv (T r))
  refine ⟨fun e he => ?_, fun x hx x1 x2 => ?_⟩
  · rcases hL e he with c | ⟨c, d⟩ | ⟨c, d⟩
    · exact hI.1 e (List.mem_cons_of_mem _ c)
    · subst c
      refine ⟨d, by show r ≤ n; omega, by show 0 ≤ S i r; omega, fun x f t x1 x2 hN => ?_⟩
      have x1' : i ≤ x := x1
      have x2' : x < r := x2
      exact mx_N2 (mx_sL ho x2') (t4 x f t x1' (by show x < j; omega) hN)
    · subst c
      refine ⟨d, t2', by show 0 ≤ S (r + 1) j; omega, fun x f t x1 x2 hN => ?_⟩
      have x1' : r + 1 ≤ x := x1
      have x2' : x < j := x2
      exact mx_N2 (mx_sR ho (by omega)) (t4 x f t (by show i ≤ x; omega) x2' hN)
  · by_cases e : x = r
    · subst e
      refine Or.inr (fun f t hN => ?_)
      obtain ⟨n1, n2⟩ := mx_N3 (mx_sE ho) (t4 x f t p1 p2 hN)
      rw [n1, n2]
      exact ⟨pk_us, pk_us⟩
    · rcases hI.2 x hx x1 x2 with ⟨e', he, c1, c2⟩ | c
      · rcases List.mem_cons.mp he with c3 | c3
        · subst c3
          have c1' : i ≤ x := c1
          have c2' : x < j := c2
          by_cases lt : x < r
          · exact Or.inl ⟨(i, r), hl1 (by omega), c1', lt⟩
          · exact Or.inl ⟨(r + 1, j), hl2 (by omega), by show r + 1 ≤ x; omega, c2'⟩
        · exact Or.inl ⟨e', hl e' c3, c1, c2⟩
      · refine Or.inr (fun f t hN => ?_)
        rw [pk_un e, pk_un e]
        exact c f t hN
end
/-! the flat tables -/
def mx_S (a : Nat → Int32) (i j : Nat) : Int := if i < j then (a (17 * i + j)).toInt else -1
def mx_V (a : Nat → Int32) (i j : Nat) : Int32 := a (17 * i + j)
def mx_O (a : Nat → Int32) (i j : Nat) : Int := (a (17 * i + j)).toInt
theorem mx_S1 {a : Nat → Int32} {i j : Nat} (h : i < j) : mx_S a i j = (a (17 * i + j)).toInt := if_pos h
theorem mx_S0 {a : Nat → Int32} {i j : Nat} (h : j ≤ i) : mx_S a i j = -1 := if_neg (by omega)
/-- done: all spans narrower than w, and those of width w that begin ahead of i -/
def mx_P (lv kd : Nat → Nat) (mn : Nat → Int32) (T : Nat → Nat) (m : Nat) (cb : Int) (s v o : Nat → Int32) (w i : Nat) : Prop :=
  ∀ a b, a < b → b ≤ m → (b - a < w ∨ (b - a = w ∧ a < i)) → mx_C lv kd mn T cb (mx_S s) (mx_V v) (mx_O o) a b
def mx_U (a a' : Nat → Int32) (i j : Nat) : Prop := ∀ c d, d ≤ 16 → ¬ (c = i ∧ d = j) → a' (17 * c + d) = a (17 * c + d)
theorem mx_Us {a a' : Nat → Int32} {i j c d : Nat} (h : mx_U a a' i j) (hd : d ≤ 16) (hn : ¬ (c = i ∧ d = j)) : mx_S a' c d = mx_S a c d := by
  unfold mx_S
  rw [h c d hd hn]
section
variable {lv kd : Nat → Nat} {mn : Nat → Int32} {T : Nat → Nat} {m : Nat} {cb : Int} {s v o s' v' o' : Nat → Int32}
theorem mx_P1 (hm : m ≤ 16) {w i : Nat} (hw : 0 < w) (hj : i + w ≤ m) (hP : mx_P lv kd mn T m cb s v o w i) (us : mx_U s s' i (i + w)) (uv : mx_U v v' i (i + w)) (uo : mx_U o o' i (i + w))
    (hC : mx_C lv kd mn T cb (mx_S s') (mx_V v') (mx_O o') i (i + w)) : mx_P lv kd mn T m cb s' v' o' w (i + 1) := by
  intro a b hab hb hd
  by_cases e : a = i ∧ b = i + w
  · rw [e.1, e.2]
    exact hC
  · have old := hP a b hab hb (by omega)
    refine mx_Cc (fun c d h1 h2 => mx_Us us (by omega) (by omega)) (fun c d h1 h2 _ => uv c d (by omega) (by omega)) ?_ hab (fun c d h => mx_S0 h) old
    show (o' (17 * a + b)).toInt = (o (17 * a + b)).toInt
    rw [uo a b (by omega) (by omega)]
theorem mx_P2 {w i : Nat} (hi : m < i + w) (hP : mx_P lv kd mn T m cb s v o w i) : mx_P lv kd mn T m cb s v o (w + 1) 0 :=
  fun a b hab hb hd => hP a b hab hb (by omega)
theorem mx_P3 (hP : mx_P lv kd mn T m cb s v o (m + 1) 0) : mx_T lv kd mn T m cb (mx_S s) (mx_V v) (mx_O o) :=
  ⟨fun _ _ h => mx_S0 h, fun a b hab hb => hP a b hab hb (by omega)⟩
theorem mx_P0 : mx_P lv kd mn T m cb s v o 1 0 := by
  intro a b hab hb hd
  omega
/-- the cell that is being made does not tell on what it is made of -/
theorem mx_UF {i r j : Nat} (hj : j ≤ 16) (us : mx_U s s' i j) : mx_F lv kd T (mx_S s') i r j ↔ mx_F lv kd T (mx_S s) i r j := by
  constructor
  · intro hF
    have p1 := hF.1
    have p2 := hF.2.1
    exact mx_Ft hF p1 p2 rfl (fun z => z) (fun z => z) (fun _ z => by rw [← mx_Us us (by omega) (by omega)]; exact z) (fun _ z => by rw [← mx_Us us (by omega) (by omega)]; exact z)
  · intro hF
    have p1 := hF.1
    have p2 := hF.2.1
    exact mx_Ft hF p1 p2 rfl (fun z => z) (fun z => z) (fun _ z => by rw [mx_Us us (by omega) (by omega)]; exact z) (fun _ z => by rw [mx_Us us (by omega) (by omega)]; exact z)
theorem mx_UB {i j : Nat} (hj : j ≤ 16) (us : mx_U s s' i j) : mx_B T (mx_S s') i j ↔ mx_B T (mx_S s) i j := by
  unfold mx_B
  rw [mx_Us us (by omega) (by omega)]
end
