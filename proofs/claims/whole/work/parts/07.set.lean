/-! numbers and settings -/
theorem my_17 (i j : Nat) : (17 : Int32) * nI i + nI j = nI (17 * i + j) := by
  show nI 17 * nI i + nI j = _
  rw [pk_mul, nI_add]
theorem my_17b (r j : Nat) : (17 : Int32) * nI r + 17 + nI j = nI (17 * (r + 1) + j) := by
  show nI 17 * nI r + nI 17 + nI j = _
  rw [pk_mul, nI_add, nI_add]
  exact congrArg nI (by omega)
theorem my_m1 : (-1 : Int32).toInt = -1 := by decide
theorem my_0 : (0 : Int32).toInt = 0 := by decide
theorem my_lt {a : Int32} {e : Int} {k : Nat} (ha : a.toInt = e) (hk : k < 2 ^ 31) : a < nI k ↔ e < (k : Int) := by
  rw [Int32.lt_iff_toInt_lt, ha, nI_toInt hk]
theorem my_lt1 {a : Int32} {e : Int} {k : Nat} (ha : a.toInt = e) (hk : k + 1 < 2 ^ 31) : a < nI k + 1 ↔ e < (k : Int) + 1 := by
  rw [nI_1, Int32.lt_iff_toInt_lt, ha, nI_toInt hk]
  omega
theorem my_lt0 {a : Int32} {e : Int} (ha : a.toInt = e) : a < 0 ↔ e < 0 := by
  rw [Int32.lt_iff_toInt_lt, ha, my_0]
theorem my_le0 {a : Int32} {e : Int} (ha : a.toInt = e) : 0 ≤ a ↔ 0 ≤ e := by
  rw [Int32.le_iff_toInt_le, ha, my_0]
theorem my_em1 {a : Int32} {e : Int} (ha : a.toInt = e) : a = -1 ↔ e = -1 := by
  rw [← Int32.toInt_inj, ha, my_m1]
theorem my_em2 {a : Int32} {e : Int} (ha : a.toInt = e) : a = -2 ↔ e = -2 := by
  rw [← Int32.toInt_inj, ha, show (-2 : Int32).toInt = -2 from by decide]
theorem my_nI {a : Int32} {k : Nat} (ha : a.toInt = (k : Int)) (hk : k < 2 ^ 31) : a = nI k := by
  rw [← Int32.toInt_inj, ha, nI_toInt hk]
theorem my_if {c d A B : Prop} (e : c ↔ d) (f : d → A) (g : ¬ d → B) : (c → A) ∧ (¬ c → B) :=
  ⟨fun z => f (e.mp z), fun z => g (fun y => z (e.mpr y))⟩
def mx_G (lv kd : Nat → Nat) (mn : Nat → Int32) (K L M : Nat → Int32) : Prop :=
  (∀ k, kd k < 5) ∧ (∀ t, lv t < 5) ∧ (∀ k, k < 5 → K k = nI (kd k)) ∧ (∀ t, 10 ≤ t → t < 18 → L (t - 10) = nI (lv t)) ∧ (∀ t, 10 ≤ t → t < 18 → M (t - 10) = mn t)
def mx_A (R : Nat → Int32) (T : Nat → Nat) (m : Nat) : Prop := (∀ j, j < m → R j = nI (T j)) ∧ ∀ j, T j < 20
theorem mx_n1k {kd : Nat → Nat} {k : Nat} (h1 : kd k ≠ 1) (h2 : kd k ≠ 2) : mx_n1 kd k = (k : Int) := if_neg (by omega)
theorem mx_n1s {kd : Nat → Nat} {k : Nat} (h : kd k = 1 ∨ kd k = 2) : mx_n1 kd k = (k : Int) + 1 := if_pos h
theorem mx_n2k {kd : Nat → Nat} {k : Nat} (h1 : kd k ≠ 0) (h2 : kd k ≠ 2) : mx_n2 kd k = (k : Int) := if_neg (by omega)
theorem mx_n2s {kd : Nat → Nat} {k : Nat} (h : kd k = 0 ∨ kd k = 2) : mx_n2 kd k = (k : Int) + 1 := if_pos h
theorem mx_Uu {s : Nat → Int32} {i j : Nat} {x : Int32} (hj : j ≤ 16) : mx_U s (upd s (17 * i + j) x) i j :=
  fun c d hd hn => pk_un (by omega)
theorem mx_Ut {a b c : Nat → Int32} {i j : Nat} (h1 : mx_U a b i j) (h2 : mx_U b c i j) : mx_U a c i j :=
  fun x y hy hn => (h2 x y hy hn).trans (h1 x y hy hn)
theorem mx_Ur {a : Nat → Int32} {i j : Nat} : mx_U a a i j := fun _ _ _ _ => rfl
section
variable {lv kd : Nat → Nat} {mn : Nat → Int32} {T : Nat → Nat} {cb : Int} {s v s' v' o' : Nat → Int32} {i j : Nat}
theorem mx_mN (h1 : j = i + 1) (h2 : T i < 10) (e1 : s' (17 * i + j) = 5) (e2 : o' (17 * i + j) = -1) (e3 : v' (17 * i + j) = nI (T i)) : mx_C lv kd mn T cb (mx_S s') (mx_V v') (mx_O o') i j := by
  refine Or.inl ⟨h1, h2, ?_, ?_, e3⟩
  · rw [mx_S1 (by omega), e1]
    decide
  · show (o' (17 * i + j)).toInt = -1
    rw [e2]
    decide
theorem mx_mB (hj : j ≤ 16) (us : mx_U s s' i j) (uv : mx_U v v' i j) (hB : mx_B T (mx_S s) i j) (e1 : s' (17 * i + j) = 5) (e2 : (o' (17 * i + j)).toInt = cb) (e3 : v' (17 * i + j) = v (17 * (i + 1) + (j - 1))) :
    mx_C lv kd mn T cb (mx_S s') (mx_V v') (mx_O o') i j := by
  have z : i + 1 < j - 1 := by
    by_cases c : i + 1 < j - 1
    · exact c
    · have b3 := hB.2.2
      rw [mx_S0 (by omega)] at b3
      omega
  refine Or.inr (Or.inl ⟨(mx_UB hj us).mpr hB, ?_, e2, ?_⟩)
  · rw [mx_S1 (by omega), e1]
    decide
  · show v' (17 * i + j) = v' (17 * (i + 1) + (j - 1))
    rw [e3, uv (i + 1) (j - 1) (by omega) (by omega)]
theorem mx_mF {r : Nat} (hj : j ≤ 16) (us : mx_U s s' i j) (uv : mx_U v v' i j) (hF : mx_F lv kd T (mx_S s) i r j) (hl : lv (T r) < 5) (e1 : s' (17 * i + j) = nI (lv (T r))) (e2 : o' (17 * i + j) = nI r)
    (e3 : v' (17 * i + j) = mx_jv lv kd mn T (mx_V v) i r j) : mx_C lv kd mn T cb (mx_S s') (mx_V v') (mx_O o') i j := by
  have p1 := hF.1
  have p2 := hF.2.1
  refine Or.inr (Or.inr (Or.inl ⟨r, (mx_UF hj us).mpr hF, ?_, ?_, ?_⟩))
  · rw [mx_S1 (by omega), e1, nI_toInt (by omega)]
  · show (o' (17 * i + j)).toInt = _
    rw [e2, nI_toInt (by omega)]
  · show v' (17 * i + j) = _
    rw [e3]
    exact (mx_jvt rfl (fun _ => uv i r (by omega) (by omega)) (fun _ => uv (r + 1) j (by omega) (by omega))).symm
theorem mx_m0 (hj : j ≤ 16) (hij : i < j) (us : mx_U s s' i j) (e1 : s' (17 * i + j) = -1) (h1 : ¬ (j = i + 1 ∧ T i < 10)) (h2 : ¬ mx_B T (mx_S s) i j) (h3 : ∀ r, ¬ mx_F lv kd T (mx_S s) i r j) :
    mx_C lv kd mn T cb (mx_S s') (mx_V v') (mx_O o') i j := by
  refine Or.inr (Or.inr (Or.inr ⟨?_, h1, fun z => h2 ((mx_UB hj us).mp z), fun r z => h3 r ((mx_UF hj us).mp z)⟩))
  rw [mx_S1 hij, e1]
  decide
end
