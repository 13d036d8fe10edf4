/-! the reference's spare -/
theorem mx_IF0 {lv kd T : Nat → Nat} {n : Nat} {S O : Nat → Nat → Int} {fr tu : Nat → Int32} {l : List (Nat × Nat)} {i j r : Nat} (hI : mx_I lv kd T n S O fr tu ((i, j) :: l)) (hF : mx_F lv kd T S i r j) (ho : O i j = (r : Int))
    (c1 : ¬ i < r) (c2 : ¬ r + 1 < j) : mx_I lv kd T n S O (upd fr r (nI i)) (upd tu r (nI j)) l :=
  mx_IF hI hF ho (fun e he => Or.inl he) (fun e he => he) (fun c => absurd c c1) (fun c => absurd c c2)
theorem mx_IF1 {lv kd T : Nat → Nat} {n : Nat} {S O : Nat → Nat → Int} {fr tu : Nat → Int32} {l : List (Nat × Nat)} {i j r : Nat} (hI : mx_I lv kd T n S O fr tu ((i, j) :: l)) (hF : mx_F lv kd T S i r j) (ho : O i j = (r : Int))
    (c1 : i < r) (c2 : ¬ r + 1 < j) : mx_I lv kd T n S O (upd fr r (nI i)) (upd tu r (nI j)) ((i, r) :: l) := by
  refine mx_IF hI hF ho (fun e he => ?_) (fun e he => List.mem_cons_of_mem _ he) (fun _ => List.mem_cons_self ..) (fun c => absurd c c2)
  rcases List.mem_cons.mp he with c | c
  · exact Or.inr (Or.inl ⟨c, c1⟩)
  · exact Or.inl c
theorem mx_IF2 {lv kd T : Nat → Nat} {n : Nat} {S O : Nat → Nat → Int} {fr tu : Nat → Int32} {l : List (Nat × Nat)} {i j r : Nat} (hI : mx_I lv kd T n S O fr tu ((i, j) :: l)) (hF : mx_F lv kd T S i r j) (ho : O i j = (r : Int))
    (c1 : ¬ i < r) (c2 : r + 1 < j) : mx_I lv kd T n S O (upd fr r (nI i)) (upd tu r (nI j)) ((r + 1, j) :: l) := by
  refine mx_IF hI hF ho (fun e he => ?_) (fun e he => List.mem_cons_of_mem _ he) (fun c => absurd c c1) (fun _ => List.mem_cons_self ..)
  rcases List.mem_cons.mp he with c | c
  · exact Or.inr (Or.inr ⟨c, c2⟩)
  · exact Or.inl c
theorem mx_IF3 {lv kd T : Nat → Nat} {n : Nat} {S O : Nat → Nat → Int} {fr tu : Nat → Int32} {l : List (Nat × Nat)} {i j r : Nat} (hI : mx_I lv kd T n S O fr tu ((i, j) :: l)) (hF : mx_F lv kd T S i r j) (ho : O i j = (r : Int))
    (c1 : i < r) (c2 : r + 1 < j) : mx_I lv kd T n S O (upd fr r (nI i)) (upd tu r (nI j)) ((r + 1, j) :: (i, r) :: l) := by
  refine mx_IF hI hF ho (fun e he => ?_) (fun e he => List.mem_cons_of_mem _ (List.mem_cons_of_mem _ he)) (fun _ => List.mem_cons_of_mem _ (List.mem_cons_self ..)) (fun _ => List.mem_cons_self ..)
  rcases List.mem_cons.mp he with c | c
  · exact Or.inr (Or.inr ⟨c, c2⟩)
  · rcases List.mem_cons.mp c with c | c
    · exact Or.inr (Or.inl ⟨c, c1⟩)
    · exact Or.inl c
section
variable {z m : Int32} {K L M X R kf kt : Nat → Int32} {lv kd : Nat → Nat} {mn : Nat → Int32} {T : Nat → Nat} {n : Nat} {s v o : Nat → Int32}
theorem mf_12 (h : mx_T lv kd mn T n (-2) (mx_S s) (mx_V v) (mx_O o)) (hn : n ≤ 16) {post : SY → Prop}
    (H : ∀ fr tu pn, mx_I lv kd T n (mx_S s) (mx_O o) fr tu [] → post (z, m, K, L, M, X, R, s, v, o, fr, tu, kf, kt, pn)) :
    ∀ w l fr tu pn, mx_Z l ≤ w → mx_Z l ≤ 16 → mx_I lv kd T n (mx_S s) (mx_O o) fr tu l → mx_L pn l → wY_findStretches_12 post z m (w + 1) (nI l.length) K L M X R s v o fr tu kf kt pn := by
  intro w
  induction w with
  | zero =>
    intro l fr tu pn hz h16 hI hL
    cases l with
    | nil => exact br_t (by decide) (H fr tu pn hI)
    | cons e l =>
      have t1 := (hI.1 e (List.mem_cons_self ..)).1
      have hz' : (e.2 - e.1) + mx_Z l ≤ 0 := hz
      omega
  | succ w ih =>
    intro l fr tu pn hz h16 hI hL
    cases l with
    | nil => exact br_t (by decide) (H fr tu pn hI)
    | cons e l =>
      obtain ⟨i, j⟩ := e
      obtain ⟨t1', t2', t3', _⟩ := hI.1 (i, j) (List.mem_cons_self ..)
      have t1 : i < j := t1'
      have t2 : j ≤ n := t2'
      have t3 : 0 ≤ mx_S s i j := t3'
      have hz' : (j - i) + mx_Z l ≤ w + 1 := hz
      have h16' : (j - i) + mx_Z l ≤ 16 := h16
      have hl : l.length ≤ mx_Z l := mx_Il (fun e he => (hI.1 e (List.mem_cons_of_mem _ he)).1)
      obtain ⟨hL1, hL2⟩ := hL
      have hL1' : pn l.length = nI (17 * i + j) := hL1
      have cl : (nI l.length).toNatClampNeg = l.length := nI_clamp (by omega)
      have i40 : vp_in (nI l.length) 40 := vp_in_nI (by omega) (by omega)
      have dv : pn (nI l.length).toNatClampNeg / 17 = nI i := by
        rw [cl, hL1']
        show nI (17 * i + j) / nI 17 = nI i
        rw [pk_div (by omega) (by omega) (by omega)]
        exact congrArg nI (by omega)
      have rm : pn (nI l.length).toNatClampNeg - pn (nI l.length).toNatClampNeg / 17 * 17 = nI j := by
        rw [cl, hL1']
        show nI (17 * i + j) - nI (17 * i + j) / nI 17 * nI 17 = nI j
        rw [pk_rem (by omega) (by omega) (by omega)]
        exact congrArg nI (by omega)
      have iq : vp_in ((17 : Int32) * nI i + nI j) 289 := by
        rw [my_17]
        exact vp_in_nI (by omega) (by omega)
      have eo : o ((17 : Int32) * nI i + nI j).toNatClampNeg = o (17 * i + j) := by rw [my_17, nI_clamp (by omega)]
      have oO : (o (17 * i + j)).toInt = mx_O o i j := rfl
      refine br_f (nI_nle (n := l.length + 1) (by omega) (by omega)) (nm_r (pk_m1 l.length) ⟨i40, by decide, nm_r dv ⟨i40, by decide, nm_r rm ⟨iq, nm_r eo ?_⟩⟩⟩)
      obtain ⟨_, cs⟩ := mx_vw h t2 t3
      rcases cs with ⟨a1, a2, a3, a4⟩ | ⟨hB, a3, a4, a5⟩ | ⟨r, hF, a3, a4⟩
      · exact my_if (my_em2 oO) (fun c => by omega) (fun _ => br_t ((my_lt0 oO).mpr (by omega)) (ih l fr tu pn (by omega) (by omega) (mx_IN h hI a1 a2) hL2))
      · have e3 : ((17 : Int32) * nI i + 17 + nI j) - 1 = nI (17 * (i + 1) + (j - 1)) := by
          rw [my_17b i j]
          exact (pk_sub (b := 1) (by omega)).trans (congrArg nI (by omega))
        refine br_t ((my_em2 oO).mpr a3) ⟨i40, nm_r (e' := upd pn l.length (nI (17 * (i + 1) + (j - 1)))) (by rw [cl, e3]) (nm_r (nI_1 l.length) (ih ((i + 1, j - 1) :: l) fr tu _ ?_ ?_ (mx_IB h (by decide) hI hB a3) (mx_Lp hL2)))⟩
        · show (j - 1 - (i + 1)) + mx_Z l ≤ w
          omega
        · show (j - 1 - (i + 1)) + mx_Z l ≤ 16
          omega
      · have p1 := hF.1
        have p2 := hF.2.1
        have e2 := my_nI (oO.trans a3) (by omega)
        have cr : (nI r).toNatClampNeg = r := nI_clamp (by omega)
        have ir : vp_in (nI r) 16 := vp_in_nI (by omega) (by omega)
        have eb := my_17b r j
        have ea := my_17 i r
        rw [e2]
        refine br_f (fun c => ?_) (br_f (nI_pos (by omega)) ⟨ir, nm_r (e' := upd fr r (nI i)) (by rw [cr]) ⟨ir, nm_r (e' := upd tu r (nI j)) (by rw [cr]) (pk_le r i (fun c => ?_) (fun c => ?_))⟩⟩)
        · have := (my_em2 (nI_toInt (n := r) (by omega))).mp c
          omega
        · refine my_if (d := j ≤ r + 1) (by rw [nI_1]; exact nI_leI (by omega) (by omega)) (fun c2 => ?_) (fun c2 => ⟨i40, nm_r (e' := upd pn l.length (nI (17 * (r + 1) + j))) (by rw [cl, eb]) (nm_r (nI_1 l.length) ?_)⟩)
          · exact ih l _ _ pn (by omega) (by omega) (mx_IF0 hI hF a3 (by omega) (by omega)) hL2
          · refine ih ((r + 1, j) :: l) _ _ _ ?_ ?_ (mx_IF2 hI hF a3 (by omega) (by omega)) (mx_Lp hL2)
            · show (j - (r + 1)) + mx_Z l ≤ w
              omega
            · show (j - (r + 1)) + mx_Z l ≤ 16
              omega
        · refine ⟨i40, nm_r (e' := upd pn l.length (nI (17 * i + r))) (by rw [cl, ea]) (nm_r (nI_1 l.length) ?_)⟩
          have cl1 : (nI (l.length + 1)).toNatClampNeg = l.length + 1 := nI_clamp (by omega)
          refine my_if (d := j ≤ r + 1) (by rw [nI_1 r]; exact nI_leI (by omega) (by omega)) (fun c2 => ?_) (fun c2 => ⟨vp_in_nI (by omega) (by omega), nm_r (e' := upd (upd pn l.length (nI (17 * i + r))) (l.length + 1) (nI (17 * (r + 1) + j))) (by rw [cl1, eb]) (nm_r (nI_1 (l.length + 1)) ?_)⟩)
          · refine ih ((i, r) :: l) _ _ _ ?_ ?_ (mx_IF1 hI hF a3 (by omega) (by omega)) (mx_Lp hL2)
            · show (r - i) + mx_Z l ≤ w
              omega
            · show (r - i) + mx_Z l ≤ 16
              omega
          · refine ih ((r + 1, j) :: (i, r) :: l) _ _ _ ?_ ?_ (mx_IF3 hI hF a3 (by omega) (by omega)) (mx_Lp (l := (i, r) :: l) (mx_Lp hL2))
            · show (j - (r + 1)) + ((r - i) + mx_Z l) ≤ w
              omega
            · show (j - (r + 1)) + ((r - i) + mx_Z l) ≤ 16
              omega
theorem mf_fs (h : mx_T lv kd mn T n (-2) (mx_S s) (mx_V v) (mx_O o)) (hn : n ≤ 16) {post : SY → Prop} {fr tu pn : Nat → Int32} (h0 : 0 ≤ mx_S s 0 n)
    (H : ∀ fr tu pn, (∀ x f t, x < n → 10 ≤ T x → T x < 18 → mx_N lv kd T (mx_O o) x 0 n f t → fr x = nI f ∧ tu x = nI t) → post (z, (nI n), K, L, M, X, R, s, v, o, fr, tu, kf, kt, pn)) : wpY_findStretches post (z, (nI n), K, L, M, X, R, s, v, o, fr, tu, kf, kt, pn) := by
  have np := mx_ps h h0
  refine nm_e ⟨n + 1, mf_12 h hn (fun fr tu pn hI => H fr tu pn (fun x f t h1 h2 h3 hN => ?_)) n [(0, n)] fr tu _ ?_ ?_ (mx_I0 h0 np) ⟨?_, trivial⟩⟩
  · rcases hI.2 x h1 h2 h3 with ⟨e, he, _⟩ | c
    · cases he
    · exact c f t hN
  · show (n - 0) + 0 ≤ n
    omega
  · show (n - 0) + 0 ≤ 16
    omega
  · show upd pn 0 (nI n) 0 = nI (17 * 0 + n)
    rw [pk_us]
    exact congrArg nI (by omega)
end
section
variable {z m : Int32} {K L M X R s v o fr tu kf kt pn : Nat → Int32} {lv kd : Nat → Nat} {mn : Nat → Int32} {T : Nat → Nat} {n p g : Nat}
theorem mf_p4 {S : Nat → Nat → Int} (hn : n ≤ 15) (hA : mx_A X T n) (hg : g < n) (hpg : p < g) (h18 : T p = 18) (h19 : T g = 19) (hD : mx_D lv T S (p + 1) g) {post : Int32 → Prop} (H : post (nI g)) :
    ∀ (d q e : Nat), q + d = g → p < q → (e : Int) = mx_b T q - mx_b T p → wY_partner_4 post (nI n) m K L M X R s v o fr tu kf kt pn (d + 1) (nI e) (nI q) := by
  obtain ⟨d1, d2, _⟩ := hD
  have e1 : mx_b T (p + 1) = mx_b T p + 1 := by rw [mx_b1, h18, mx_w18]
  have rd : ∀ q, q < n → X (nI q).toNatClampNeg = nI (T q) := fun q hq => by rw [nI_clamp (by omega)]; exact hA.1 q hq
  intro d
  induction d with
  | zero =>
    intro q e hq hp he
    have eq : q = g := by omega
    subst eq
    have e0 : e = 1 := by omega
    subst e0
    have hq := rd q hg
    refine br_f (nI_ge (by omega) (by omega)) ⟨vp_in_nI (by omega) (by omega), br_f ?_ ⟨vp_in_nI (by omega) (by omega), br_t ?_ (br_t (by decide) H)⟩⟩
    · rw [hq, h19]
      decide
    · rw [hq, h19]
      rfl
  | succ d ih =>
    intro q e hq hp he
    have hr := rd q (by omega)
    have hT := hA.2 q
    have lo := d2 (q + 1) (by omega) (by omega)
    have lo0 := d2 q (by omega) (by omega)
    have eb := mx_b1 T q
    have iq : vp_in (nI q) 15 := vp_in_nI (by omega) (by omega)
    have b40 : ∀ x, x ≤ 16 → mx_b T x ≤ mx_b T 0 + x ∧ mx_b T 0 - x ≤ mx_b T x := by
      intro x
      induction x with
      | zero => intro _; omega
      | succ x ihx =>
        intro hx
        have h1 := ihx (by omega)
        have h2 := mx_b1 T x
        have h3 : mx_w (T x) ≤ 1 ∧ -1 ≤ mx_w (T x) := by
          unfold mx_w
          split
          · omega
          · split <;> omega
        omega
    have b1 := b40 q (by omega)
    have b2 := b40 p (by omega)
    refine br_f (nI_ge (by omega) (by omega)) ⟨iq, my_if (d := T q = 18) (by rw [hr]; exact nI_eq (b := 18) (by omega) (by decide)) (fun c => ?_) (fun c => ⟨iq, my_if (d := T q = 19) (by rw [hr]; exact nI_eq (b := 19) (by omega) (by decide)) (fun c2 => ?_) (fun c2 => ?_)⟩)⟩
    · rw [c, mx_w18] at eb
      rw [nI_1 e]
      exact br_f (nI_ne0 (by omega) (by omega)) (nm_r (nI_1 q) (ih (q + 1) (e + 1) (by omega) (by omega) (by omega)))
    · rw [c2, mx_w19] at eb
      have es : nI e - 1 = nI (e - 1) := pk_sub (b := 1) (by omega)
      rw [es]
      exact br_f (nI_ne0 (by omega) (by omega)) (nm_r (nI_1 q) (ih (q + 1) (e - 1) (by omega) (by omega) (by omega)))
    · rw [mx_w0 (by omega)] at eb
      exact br_f (nI_ne0 (by omega) (by omega)) (nm_r (nI_1 q) (ih (q + 1) e (by omega) (by omega) (by omega)))
theorem mf_pt {S : Nat → Nat → Int} (hn : n ≤ 15) (hA : mx_A X T n) (hg : g < n) (hpg : p < g) (h18 : T p = 18) (h19 : T g = 19) (hD : mx_D lv T S (p + 1) g) {post : Int32 → Prop} (H : post (nI g)) : wpY_partner post ((nI n), m, K, L, M, X, R, s, v, o, fr, tu, kf, kt, pn) (nI p) := by
  have e1 : mx_b T (p + 1) = mx_b T p + 1 := by rw [mx_b1, h18, mx_w18]
  have hr : X (nI p).toNatClampNeg = nI (T p) := by rw [nI_clamp (by omega)]; exact hA.1 p (by omega)
  refine ⟨(g - (p + 1)) + 1 + 1, br_f (nI_ge (by omega) (by omega)) ⟨vp_in_nI (by omega) (by omega), br_t ?_ (br_f (by decide) (nm_r (nI_1 p) ?_))⟩⟩
  · rw [hr, h18]
    rfl
  · exact mf_p4 hn hA hg hpg h18 h19 hD H (g - (p + 1)) (p + 1) 1 (by omega) (by omega) (by omega)
theorem mf_wo {post : Int32 → Prop} {y : Int32} {x : Nat} (hy : y = nI x) (hpg : p < g) (hg : g < 100) (hx : x < 100) (h : post (nI (mx_o p g x))) : wpY_without post (z, m, K, L, M, X, R, s, v, o, fr, tu, kf, kt, pn) y (nI p) (nI g) := by
  subst hy
  have e1 : nI x - 0 - 0 = nI x := by rw [Int32.sub_zero, Int32.sub_zero]
  refine pk_le x p (fun c => pk_le x g (fun c2 => ?_) (fun c2 => by omega)) (fun c => pk_le x g (fun c2 => ?_) (fun c2 => ?_))
  · rw [e1]
    rw [mx_o1 hpg c] at h
    exact h
  · have e2 : nI x - 1 - 0 = nI (x - 1) := by
      rw [Int32.sub_zero]
      exact pk_sub (b := 1) (by omega)
    rw [e2]
    rw [mx_o2 c c2] at h
    exact h
  · have e3 : nI x - 1 - 1 = nI (x - 2) := by
      have e4 : nI x - 1 = nI (x - 1) := pk_sub (b := 1) (by omega)
      rw [e4]
      exact (pk_sub (b := 1) (by omega)).trans (congrArg nI (by omega))
    rw [e3]
    rw [mx_o3 hpg c2] at h
    exact h
theorem mf_77 (hn : n ≤ 15) (hA : mx_A X T n) (hpg : p < g) (hg : g < n) {post : Int32 → SY → Prop} {C : Nat → Prop}
    (HC : ∀ x, x < n → 10 ≤ T x → T x < 18 → ∃ F G f' t', kf x = nI F ∧ kt x = nI G ∧ fr (mx_o p g x) = nI f' ∧ tu (mx_o p g x) = nI t' ∧ F < 100 ∧ G < 100 ∧ f' < 100 ∧ t' < 100 ∧ (C x ↔ (f' = mx_o p g F ∧ t' = mx_o p g G)))
    (Hy : (∀ x, x < n → 10 ≤ T x → T x < 18 → C x) → post 1 ((nI n), m, K, L, M, X, R, s, v, o, fr, tu, kf, kt, pn)) (Hn : ¬ (∀ x, x < n → 10 ≤ T x → T x < 18 → C x) → post 0 ((nI n), m, K, L, M, X, R, s, v, o, fr, tu, kf, kt, pn)) :
    ∀ d x, x + d = n → (∀ y, y < x → 10 ≤ T y → T y < 18 → C y) → wY_isSpare_77 post (nI p) (nI g) (nI n) m K L M X R s v o fr tu kf kt pn (d + 1) (nI x) := by
  have ob : ∀ x, mx_o p g x ≤ x := fun x => Nat.le_trans (Nat.sub_le _ _) (Nat.sub_le _ _)
  intro d
  induction d with
  | zero =>
    intro x hx hb
    have e : x = n := by omega
    subst e
    exact br_t (nI_le (by omega) (by omega)) (Hy hb)
  | succ d ih =>
    intro x hx hb
    have hr : X (nI x).toNatClampNeg = nI (T x) := by rw [nI_clamp (by omega)]; exact hA.1 x (by omega)
    have hT := hA.2 x
    have i15 : vp_in (nI x) 15 := vp_in_nI (by omega) (by omega)
    have i16 : vp_in (nI x) 16 := vp_in_nI (by omega) (by omega)
    have ox := ob x
    have io : vp_in (nI (mx_o p g x)) 16 := vp_in_nI (by omega) (by omega)
    have co : (nI (mx_o p g x)).toNatClampNeg = mx_o p g x := nI_clamp (by omega)
    have cx : (nI x).toNatClampNeg = x := nI_clamp (by omega)
    have nx : (10 ≤ T x → T x < 18 → C x) → wY_isSpare_77 post (nI p) (nI g) (nI n) m K L M X R s v o fr tu kf kt pn (d + 1) (nI (x + 1)) := by
      intro hc
      refine ih (x + 1) (by omega) (fun y hy => ?_)
      by_cases e : y = x
      · rw [e]
        exact hc
      · exact hb y (by omega)
    refine br_f (nI_ge (by omega) (by omega)) (mf_wo rfl hpg (by omega) (by omega) ⟨i15, my_if (d := T x ≤ 9) (by rw [hr]; exact nI_leI (b := 9) (by omega) (by decide)) (fun c => br_t rfl (nm_r (nI_1 x) (nx (fun c3 _ => by omega)))) (fun c => ⟨i15, my_if (d := 18 ≤ T x) (by rw [hr]; exact nI_leI (a := 18) (by decide) (by omega)) (fun c2 => br_t rfl (nm_r (nI_1 x) (nx (fun _ c3 => by omega)))) (fun c2 => br_f (by decide) ?_)⟩)⟩)
    obtain ⟨F, G, f', t', q1, q2, q3, q4, q5, q6, q7, q8, q9⟩ := HC x (by omega) (by omega) (by omega)
    have oF := ob F
    have oG := ob G
    refine ⟨io, i16, mf_wo (x := F) (by rw [cx]; exact q1) hpg (by omega) q5 (my_if (d := f' = mx_o p g F) (by rw [co, q3]; exact nI_eq (by omega) (by omega)) (fun c3 => ⟨io, i16, mf_wo (x := G) (by rw [cx]; exact q2) hpg (by omega) q6 (my_if (d := t' = mx_o p g G) (by rw [co, q4]; exact nI_eq (by omega) (by omega)) (fun c4 => nm_r (nI_1 x) (nx (fun _ _ => q9.mpr ⟨c3, c4⟩))) (fun c4 => Hn (fun hall => c4 ?_)))⟩) (fun c3 => Hn (fun hall => c3 ?_)))⟩
    · exact (q9.mp (hall x (by omega) (by omega) (by omega))).2
    · exact (q9.mp (hall x (by omega) (by omega) (by omega))).1
end
def mx_q (T : Nat → Nat) (p g : Nat) (y : Nat) : Nat := if y < p then T y else if y < g - 1 then T (y + 1) else T (y + 2)
theorem mx_qQ {T : Nat → Nat} {p g n : Nat} (h1 : p + 1 < g) (h2 : g < n) : mx_Q T (mx_q T p g) p g n := by
  refine ⟨h1, h2, fun x hx => if_pos hx, fun x hx hy => ?_, fun x hx hy => ?_⟩
  · unfold mx_q
    rw [if_neg (by omega), if_pos hy]
  · unfold mx_q
    rw [if_neg (by omega), if_neg (by omega)]
theorem mx_q20 {T : Nat → Nat} {p g : Nat} (h : ∀ j, T j < 20) (y : Nat) : mx_q T p g y < 20 := by
  unfold mx_q
  split
  · exact h _
  · split
    · exact h _
    · exact h _
