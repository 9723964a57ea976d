/-! The same trails read forward, as the scanning loops meet them. -/
def yk_fw : List Nat → (Nat → Int32) → Nat → Prop
  | [], _, _ => True
  | x :: l, g, i => g i = nI x ∧ yk_fw l g (i + 1)
theorem yk_fw_app : ∀ {l : List Nat} {g : Nat → Int32} {i x : Nat}, yk_fw l g i → g (i + l.length) = nI x → yk_fw (l ++ [x]) g i := by
  intro l
  induction l with
  | nil => intro g i x _ h; exact ⟨h, True.intro⟩
  | cons y l ih =>
    intro g i x h hx
    refine ⟨h.1, ih h.2 ?_⟩
    rw [List.length_cons] at hx
    rw [← hx]
    congr 1
    omega
theorem yk_fw_sk : ∀ {p : List Nat} {g : Nat → Int32}, yk_sk p g → yk_fw p.reverse g 0 := by
  intro p
  induction p with
  | nil => intro g _; exact True.intro
  | cons v r ih =>
    intro g h
    rw [List.reverse_cons]
    refine yk_fw_app (ih h.2) ?_
    rw [List.length_reverse, Nat.zero_add]
    exact h.1
def yk_pf (u v : Int32) : Nat → List Nat → Bool
  | _, [] => false
  | a, b :: l => (decide (nI a = u) && decide (nI b = v)) || yk_pf u v b l
def yk_pg (u v : Int32) : List Nat → Bool
  | [] => false
  | a :: l => yk_pf u v a l
theorem yk_pf_app (u v : Int32) (b c : Nat) : ∀ (l : List Nat) (a : Nat), yk_pf u v a (l ++ [b] ++ [c]) = (yk_pf u v a (l ++ [b]) || (decide (nI b = u) && decide (nI c = v))) := by
  intro l
  induction l with
  | nil =>
    intro a
    simp only [List.nil_append, List.cons_append, yk_pf, Bool.or_false]
  | cons x l ih =>
    intro a
    have h := ih x
    simp only [List.cons_append, yk_pf] at h ⊢
    rw [h, Bool.or_assoc]
theorem yk_pg_ps (u v : Int32) : ∀ p : List Nat, yk_pg u v p.reverse = yk_ps u v p
  | [] => rfl
  | [_] => rfl
  | [b, a] => by
    simp only [List.reverse_cons, List.reverse_nil, List.nil_append, List.cons_append, yk_pg, yk_pf, yk_ps]
  | c :: b :: a :: r => by
    have h := yk_pg_ps u v (b :: a :: r)
    rw [yk_ps, ← h, List.reverse_cons, List.reverse_cons]
    have h2 : (a :: r).reverse ≠ [] := by simp
    cases he : (a :: r).reverse with
    | nil => exact absurd he h2
    | cons x l =>
      have h3 := yk_pf_app u v b c l x
      show yk_pf u v x (l ++ [b] ++ [c]) = (_ || yk_pf u v x (l ++ [b]))
      rw [h3, Bool.or_comm]
def yk_lf (w : Nat → Nat) : Nat → List Nat → Nat
  | _, [] => 0
  | a, b :: l => w (7 * a + b) + yk_lf w b l
def yk_lg (w : Nat → Nat) : List Nat → Nat
  | [] => 0
  | a :: l => yk_lf w a l
theorem yk_lf_app (w : Nat → Nat) (b c : Nat) : ∀ (l : List Nat) (a : Nat), yk_lf w a (l ++ [b] ++ [c]) = yk_lf w a (l ++ [b]) + w (7 * b + c) := by
  intro l
  induction l with
  | nil =>
    intro a
    simp only [List.nil_append, List.cons_append, yk_lf, Nat.add_zero]
  | cons x l ih =>
    intro a
    have h := ih x
    simp only [List.cons_append, yk_lf] at h ⊢
    rw [h, Nat.add_assoc]
theorem yk_lg_ln (w : Nat → Nat) : ∀ p : List Nat, yk_lg w p.reverse = yk_ln w p
  | [] => rfl
  | [_] => rfl
  | [b, a] => by
    simp only [List.reverse_cons, List.reverse_nil, List.nil_append, List.cons_append, yk_lg, yk_lf, yk_ln, Nat.add_zero, Nat.zero_add]
  | c :: b :: a :: r => by
    have h := yk_lg_ln w (b :: a :: r)
    rw [yk_ln, ← h, List.reverse_cons, List.reverse_cons]
    have h2 : (a :: r).reverse ≠ [] := by simp
    cases he : (a :: r).reverse with
    | nil => exact absurd he h2
    | cons x l => exact yk_lf_app w b c l x
theorem yk_mk_fo : ∀ p : List Nat, p.reverse.foldl (fun m x => m ||| yk_sh x) 0 = yk_mk p := by
  intro p
  rw [List.foldl_reverse]
  induction p with
  | nil => rfl
  | cons v p ih => rw [List.foldr_cons, ih]; rfl
theorem yk_cr {p : List Nat} {v : Nat} : p.reverse.contains v = p.contains v := by
  rw [Bool.eq_iff_iff, List.contains_iff_mem, List.contains_iff_mem, List.mem_reverse]
