/-! The table of the first twelve, the free vertices, the masks. -/
def yk_rk (w : Nat → Nat) (T : Nat → List Nat) (l : Nat) : Nat → Nat
  | 0 => 0
  | n + 1 => if l < yk_ln w (T n) then yk_rk w T l n else n + 1
def yk_is (r : Nat) (p : List Nat) (T : Nat → List Nat) : Nat → List Nat := fun k => if k < r then T k else if k = r then p else T (k - 1)
def yk_ad (w : Nat → Nat) (A : Nat × (Nat → List Nat)) (p : List Nat) : Nat × (Nat → List Nat) := (if A.1 < 12 then A.1 + 1 else A.1, yk_is (yk_rk w A.2 (yk_ln w p) A.1) p A.2)
def yk_ac (w : Nat → Nat) (K : List (List Nat)) : Nat × (Nat → List Nat) := K.foldl (yk_ad w) (0, fun _ => [])
def yk_ms (K : List (List Nat)) : Int32 := K.foldl (fun m p => m &&& yk_mk p) 127
def yk_so (w : Nat → Nat) (A : Nat × (Nat → List Nat)) : Prop := ∀ j k, j ≤ k → k < A.1 → yk_ln w (A.2 j) ≤ yk_ln w (A.2 k)
def yk_iv (w : Nat → Nat) (K : List (List Nat)) (A : Nat × (Nat → List Nat)) : Prop := A.1 ≤ 12 ∧ (∀ k, k < A.1 → A.2 k ∈ K) ∧ yk_so w A

theorem yk_ac_s (w : Nat → Nat) (K : List (List Nat)) (p : List Nat) : yk_ac w (K ++ [p]) = yk_ad w (yk_ac w K) p := by
  unfold yk_ac; rw [List.foldl_append]; rfl
theorem yk_ms_s (K : List (List Nat)) (p : List Nat) : yk_ms (K ++ [p]) = yk_ms K &&& yk_mk p := by
  unfold yk_ms; rw [List.foldl_append]; rfl

theorem yk_rk_le (w : Nat → Nat) (T : Nat → List Nat) (l : Nat) : ∀ n, yk_rk w T l n ≤ n := by
  intro n
  induction n with
  | zero => exact Nat.le_refl 0
  | succ n ih => rw [yk_rk]; split <;> omega
theorem yk_rk_gt (w : Nat → Nat) (T : Nat → List Nat) (l : Nat) : ∀ n k, yk_rk w T l n ≤ k → k < n → l < yk_ln w (T k) := by
  intro n
  induction n with
  | zero => intro k _ h; omega
  | succ n ih =>
    intro k h hk
    rw [yk_rk] at h
    split at h
    · rename_i hl
      by_cases e : k = n
      · rw [e]; exact hl
      · exact ih k h (by omega)
    · omega
theorem yk_rk_at (w : Nat → Nat) (T : Nat → List Nat) (l : Nat) : ∀ n, 0 < yk_rk w T l n → yk_ln w (T (yk_rk w T l n - 1)) ≤ l := by
  intro n
  induction n with
  | zero => intro h; exact absurd h (Nat.lt_irrefl 0)
  | succ n ih =>
    rw [yk_rk]
    split
    · exact ih
    · rename_i hl; intro _; exact Nat.le_of_not_lt hl
theorem yk_rk_lo {w : Nat → Nat} {A : Nat × (Nat → List Nat)} (h : yk_so w A) (l k : Nat) (hk : k < yk_rk w A.2 l A.1) : yk_ln w (A.2 k) ≤ l := by
  have h1 := yk_rk_at w A.2 l A.1 (by omega)
  have h2 := yk_rk_le w A.2 l A.1
  exact Nat.le_trans (h k (yk_rk w A.2 l A.1 - 1) (by omega) (by omega)) h1

theorem yk_is_lt {r k : Nat} {p : List Nat} {T : Nat → List Nat} (h : k < r) : yk_is r p T k = T k := if_pos h
theorem yk_is_eq {r : Nat} {p : List Nat} {T : Nat → List Nat} : yk_is r p T r = p := by
  unfold yk_is; rw [if_neg (Nat.lt_irrefl r), if_pos rfl]
theorem yk_is_gt {r k : Nat} {p : List Nat} {T : Nat → List Nat} (h : r < k) : yk_is r p T k = T (k - 1) := by
  unfold yk_is; rw [if_neg (by omega), if_neg (by omega)]

theorem yk_ad_1 (w : Nat → Nat) (A : Nat × (Nat → List Nat)) (p : List Nat) : (yk_ad w A p).1 = if A.1 < 12 then A.1 + 1 else A.1 := rfl
theorem yk_ad_2 (w : Nat → Nat) (A : Nat × (Nat → List Nat)) (p : List Nat) : (yk_ad w A p).2 = yk_is (yk_rk w A.2 (yk_ln w p) A.1) p A.2 := rfl

theorem yk_iv_ad {w : Nat → Nat} {K : List (List Nat)} {A : Nat × (Nat → List Nat)} (h : yk_iv w K A) (p : List Nat) : yk_iv w (K ++ [p]) (yk_ad w A p) := by
  obtain ⟨h12, hm, hs⟩ := h
  have hn : (yk_ad w A p).1 ≤ A.1 + 1 ∧ (yk_ad w A p).1 ≤ 12 := by
    rw [yk_ad_1]; split <;> omega
  have hr := yk_rk_le w A.2 (yk_ln w p) A.1
  have hlo := fun k => yk_rk_lo hs (yk_ln w p) k
  have hgt := yk_rk_gt w A.2 (yk_ln w p) A.1
  refine ⟨hn.2, ?_, ?_⟩
  · intro k hk
    rw [yk_ad_2]
    rcases Nat.lt_trichotomy k (yk_rk w A.2 (yk_ln w p) A.1) with c | c | c
    · rw [yk_is_lt c]; exact List.mem_append_left _ (hm k (by omega))
    · rw [c, yk_is_eq]; exact List.mem_append_right _ (List.mem_singleton.mpr rfl)
    · rw [yk_is_gt c]; exact List.mem_append_left _ (hm (k - 1) (by omega))
  · intro j k hjk hk
    rw [yk_ad_2]
    rcases Nat.lt_trichotomy k (yk_rk w A.2 (yk_ln w p) A.1) with c | c | c
    · rw [yk_is_lt c, yk_is_lt (Nat.lt_of_le_of_lt hjk c)]; exact hs j k hjk (by omega)
    · rcases Nat.lt_or_ge j k with e | e
      · rw [c, yk_is_eq, yk_is_lt (by omega)]; exact hlo j (by omega)
      · have : j = k := by omega
        rw [this]; exact Nat.le_refl _
    · rw [yk_is_gt c]
      rcases Nat.lt_trichotomy j (yk_rk w A.2 (yk_ln w p) A.1) with e | e | e
      · rw [yk_is_lt e]; exact hs j (k - 1) (by omega) (by omega)
      · rw [e, yk_is_eq]; exact Nat.le_of_lt (hgt (k - 1) (by omega) (by omega))
      · rw [yk_is_gt e]; exact hs (j - 1) (k - 1) (by omega) (by omega)

theorem yk_iv_fo {w : Nat → Nat} : ∀ (K K0 : List (List Nat)) (A : Nat × (Nat → List Nat)), yk_iv w K0 A → yk_iv w (K0 ++ K) (K.foldl (yk_ad w) A) := by
  intro K
  induction K with
  | nil => intro K0 A h; rw [List.append_nil]; exact h
  | cons p K ih =>
    intro K0 A h
    have h1 := ih (K0 ++ [p]) (yk_ad w A p) (yk_iv_ad h p)
    rw [List.append_assoc] at h1
    exact h1
theorem yk_iv_ac (w : Nat → Nat) (K : List (List Nat)) : yk_iv w K (yk_ac w K) :=
  yk_iv_fo K [] (0, fun _ => []) ⟨Nat.zero_le 12, fun k hk => absurd hk (Nat.not_lt_zero k), fun _ k _ hk => absurd hk (Nat.not_lt_zero k)⟩

/-- the least length so far, NONE if there is none -/
def yk_sw (w : Nat → Nat) (A : Nat × (Nat → List Nat)) : Int32 := if A.1 = 0 then -2 else nI (yk_ln w (A.2 0))
theorem yk_n2 {n : Nat} (h : n < 2 ^ 31) : ¬ nI n = -2 := by
  intro e
  have h1 := nI_toInt h
  rw [e] at h1
  have h2 : (-2 : Int32).toInt = -2 := by decide
  omega
theorem yk_n1 {n : Nat} (h : n < 2 ^ 31) : ¬ nI n = -1 := by
  intro e
  have h1 := nI_toInt h
  rw [e] at h1
  have h2 : (-1 : Int32).toInt = -1 := by decide
  omega
theorem yk_ad_pos (w : Nat → Nat) (A : Nat × (Nat → List Nat)) (p : List Nat) : ¬ (yk_ad w A p).1 = 0 := by
  rw [yk_ad_1]; split <;> omega
theorem yk_sw_ad {w : Nat → Nat} {A : Nat × (Nat → List Nat)} (hs : yk_so w A) (p : List Nat) (hp : yk_ln w p < 2 ^ 31) (hT : 0 < A.1 → yk_ln w (A.2 0) < 2 ^ 31) :
    yk_sw w (yk_ad w A p) = if yk_sw w A = -2 ∨ nI (yk_ln w p) < yk_sw w A then nI (yk_ln w p) else yk_sw w A := by
  unfold yk_sw
  rw [if_neg (yk_ad_pos w A p), yk_ad_2]
  by_cases h0 : A.1 = 0
  · rw [if_pos h0, if_pos (Or.inl rfl), h0]
    exact congrArg (fun q => nI (yk_ln w q)) yk_is_eq
  · rw [if_neg h0]
    have hb := hT (by omega)
    have e : (nI (yk_ln w (A.2 0)) = -2 ∨ nI (yk_ln w p) < nI (yk_ln w (A.2 0))) ↔ yk_ln w p < yk_ln w (A.2 0) := by
      rw [nI_ltI hp hb]
      exact ⟨fun h => h.resolve_left (yk_n2 hb), Or.inr⟩
    by_cases hl : yk_ln w p < yk_ln w (A.2 0)
    · rw [if_pos (e.mpr hl)]
      have hr : yk_rk w A.2 (yk_ln w p) A.1 = 0 := by
        rcases Nat.eq_zero_or_pos (yk_rk w A.2 (yk_ln w p) A.1) with h | h
        · exact h
        · have := yk_rk_lo hs (yk_ln w p) 0 h
          omega
      rw [hr, yk_is_eq]
    · rw [if_neg (fun h => hl (e.mp h))]
      have hr : 0 < yk_rk w A.2 (yk_ln w p) A.1 := by
        rcases Nat.eq_zero_or_pos (yk_rk w A.2 (yk_ln w p) A.1) with h | h
        · exact absurd (yk_rk_gt w A.2 (yk_ln w p) A.1 0 (by omega) (by omega)) hl
        · exact h
      rw [yk_is_lt hr]

/-- how many of the last d vertices are free -/
def yk_cn (p : List Nat) : Nat → Nat
  | 0 => 0
  | d + 1 => (if p.contains (6 - d) = true then 0 else 1) + yk_cn p d
def yk_vt (p : List Nat) : Prop := p.Nodup ∧ ∀ x, x ∈ p → x < 7
theorem yk_cn_push {p : List Nat} {v : Nat} (hv : v < 7) (hp : p.contains v = false) : ∀ d, d ≤ 7 → yk_cn p d = yk_cn (v :: p) d + (if 7 ≤ v + d then 1 else 0) := by
  intro d
  induction d with
  | zero => intro _; rw [if_neg (by omega)]; rfl
  | succ d ih =>
    intro hd
    rw [yk_cn, yk_cn, ih (by omega), List.contains_cons]
    by_cases e : 6 - d = v
    · rw [e, hp, if_neg (show ¬ 7 ≤ v + d by omega), if_pos (show 7 ≤ v + (d + 1) by omega)]
      simp
      omega
    · have e2 : ((6 - d) == v) = false := by simp [e]
      rw [e2, Bool.false_or]
      by_cases h : 7 ≤ v + d
      · rw [if_pos h, if_pos (show 7 ≤ v + (d + 1) by omega)]; omega
      · rw [if_neg h, if_neg (show ¬ 7 ≤ v + (d + 1) by omega)]; omega
theorem yk_cn_all {p : List Nat} (h : yk_vt p) : p.length + yk_cn p 7 = 7 := by
  induction p with
  | nil => decide
  | cons v p ih =>
    obtain ⟨hn, hb⟩ := h
    have hv : v < 7 := hb v (List.mem_cons_self ..)
    obtain ⟨h1, h2⟩ := List.nodup_cons.mp hn
    have hc : p.contains v = false := by
      cases hc : p.contains v with
      | false => rfl
      | true => exact absurd (List.contains_iff_mem.mp hc) h1
    have h3 := ih ⟨h2, fun x hx => hb x (List.mem_cons_of_mem v hx)⟩
    have h4 := yk_cn_push hv hc 7 (Nat.le_refl 7)
    rw [if_pos (by omega)] at h4
    rw [List.length_cons]
    omega
theorem yk_vt_push {p : List Nat} {v : Nat} (h : yk_vt p) (hv : v < 7) (hp : p.contains v = false) : yk_vt (v :: p) := by
  refine ⟨List.nodup_cons.mpr ⟨?_, h.1⟩, ?_⟩
  · intro hm
    rw [List.contains_iff_mem.mpr hm] at hp
    exact Bool.noConfusion hp
  · intro x hx
    rcases List.mem_cons.mp hx with e | e
    · rw [e]; exact hv
    · exact h.2 x e
theorem yk_vt_room {p : List Nat} {v : Nat} (h : yk_vt p) (hv : v < 7) (hp : p.contains v = false) : p.length < 7 := by
  have := yk_cn_all (yk_vt_push h hv hp)
  rw [List.length_cons] at this
  omega
/-- the steps that a trail costs -/
def yk_co : Nat → Nat
  | 0 => 0
  | f + 1 => 8 + f * yk_co f

theorem yk_b1 : ∀ m, m < 128 → ∀ v, v < 7 → nI m ||| yk_sh v = nI (m ||| 2 ^ v) ∧ m ||| 2 ^ v < 128 := by decide +kernel
theorem yk_b2 : ∀ m, m < 128 → ∀ v, v < 7 → ∀ y, y < 7 → ((nI m ||| yk_sh y) &&& yk_sh v = 0 ↔ (nI m &&& yk_sh v = 0 ∧ y ≠ v)) := by decide +kernel
theorem yk_b3 : ∀ m, m < 128 → ∀ v, v < 7 → nI m &&& yk_sh v = 0 → (nI m ||| yk_sh v) &&& (yk_sh v ^^^ (-1)) = nI m := by decide +kernel
theorem yk_mk_n : ∀ p : List Nat, (∀ x, x ∈ p → x < 7) → ∃ m, m < 128 ∧ yk_mk p = nI m := by
  intro p
  induction p with
  | nil => intro _; exact ⟨0, by omega, rfl⟩
  | cons v p ih =>
    intro h
    obtain ⟨m, hm, e⟩ := ih (fun x hx => h x (List.mem_cons_of_mem v hx))
    have h1 := yk_b1 m hm v (h v (List.mem_cons_self ..))
    exact ⟨m ||| 2 ^ v, h1.2, by rw [yk_mk, e, h1.1]⟩
theorem yk_b0 : ∀ v, v < 7 → (0 : Int32) &&& yk_sh v = 0 := by decide +kernel
theorem yk_mk_in : ∀ p : List Nat, (∀ x, x ∈ p → x < 7) → ∀ v, v < 7 → (yk_mk p &&& yk_sh v = 0 ↔ p.contains v = false) := by
  intro p
  induction p with
  | nil => intro _ v hv; exact ⟨fun _ => rfl, fun _ => yk_b0 v hv⟩
  | cons y p ih =>
    intro h v hv
    have hp := fun x hx => h x (List.mem_cons_of_mem y hx)
    obtain ⟨m, hm, e⟩ := yk_mk_n p hp
    have h1 := ih hp v hv
    rw [e] at h1
    rw [yk_mk, e, yk_b2 m hm v hv y (h y (List.mem_cons_self ..)), h1, List.contains_cons]
    constructor
    · intro ⟨a, b⟩
      rw [a, Bool.or_false]
      exact beq_eq_false_iff_ne.mpr (fun e => b e.symm)
    · intro a
      rw [Bool.or_eq_false_iff] at a
      exact ⟨a.2, fun e => beq_eq_false_iff_ne.mp a.1 e.symm⟩
theorem yk_mk_pop {p : List Nat} {v : Nat} (h : ∀ x, x ∈ p → x < 7) (hv : v < 7) (hc : p.contains v = false) : (yk_mk (v :: p)) &&& (yk_sh v ^^^ (-1)) = yk_mk p := by
  have h1 := (yk_mk_in p h v hv).mpr hc
  obtain ⟨m, hm, e⟩ := yk_mk_n p h
  rw [e] at h1
  rw [yk_mk, e]
  exact yk_b3 m hm v hv h1

/-- an array spells a trail -/
def yk_sk : List Nat → (Nat → Int32) → Prop
  | [], _ => True
  | v :: r, g => g r.length = nI v ∧ yk_sk r g
theorem yk_sk_ag : ∀ {p : List Nat} {g g' : Nat → Int32}, (∀ i, i < p.length → g' i = g i) → yk_sk p g → yk_sk p g' := by
  intro p
  induction p with
  | nil => intro _ _ _ _; exact True.intro
  | cons v r ih =>
    intro g g' h hs
    exact ⟨(h r.length (by rw [List.length_cons]; omega)).trans hs.1, ih (fun i hi => h i (by rw [List.length_cons]; omega)) hs.2⟩
/-- an array holds the lengths along a trail -/
def yk_tl (w : Nat → Nat) : List Nat → (Nat → Int32) → Prop
  | [], _ => True
  | v :: r, g => g r.length = nI (yk_ln w (v :: r)) ∧ yk_tl w r g
theorem yk_tl_ag {w : Nat → Nat} : ∀ {p : List Nat} {g g' : Nat → Int32}, (∀ i, i < p.length → g' i = g i) → yk_tl w p g → yk_tl w p g' := by
  intro p
  induction p with
  | nil => intro _ _ _ _; exact True.intro
  | cons v r ih =>
    intro g g' h hs
    exact ⟨(h r.length (by rw [List.length_cons]; omega)).trans hs.1, ih (fun i hi => h i (by rw [List.length_cons]; omega)) hs.2⟩
/-- the arrays hold the table -/
def yk_tb (w : Nat → Nat) (A : Nat × (Nat → List Nat)) (le si ve : Nat → Int32) : Prop :=
  ∀ k, k < A.1 → le k = nI (yk_ln w (A.2 k)) ∧ si k = nI (A.2 k).length ∧ yk_sk (A.2 k) (fun i => ve (7 * k + i))
theorem yk_tb_ad {w : Nat → Nat} {A : Nat × (Nat → List Nat)} {p : List Nat} {le si ve le' si' ve' : Nat → Int32} (h : yk_tb w A le si ve) (h7 : ∀ k, k < A.1 → (A.2 k).length ≤ 7)
    (r : Nat) (hr : r = yk_rk w A.2 (yk_ln w p) A.1)
    (hlo : ∀ k, k < r → k < 12 → le' k = le k ∧ si' k = si k ∧ ∀ i, i < 7 → ve' (7 * k + i) = ve (7 * k + i))
    (hat : r < 12 → le' r = nI (yk_ln w p) ∧ si' r = nI p.length ∧ yk_sk p (fun i => ve' (7 * r + i)))
    (hhi : ∀ k, r < k → k < (yk_ad w A p).1 → le' k = le (k - 1) ∧ si' k = si (k - 1) ∧ ∀ i, i < 7 → ve' (7 * k + i) = ve (7 * (k - 1) + i)) (h12 : A.1 ≤ 12) :
    yk_tb w (yk_ad w A p) le' si' ve' := by
  intro k hk
  have hrn := yk_rk_le w A.2 (yk_ln w p) A.1
  rw [← hr] at hrn
  have hn : (yk_ad w A p).1 ≤ A.1 + 1 ∧ (yk_ad w A p).1 ≤ 12 := by
    rw [yk_ad_1]; split <;> omega
  rw [yk_ad_2, ← hr]
  rcases Nat.lt_trichotomy k r with c | c | c
  · obtain ⟨a, b, d⟩ := hlo k c (by omega)
    obtain ⟨a', b', d'⟩ := h k (by omega)
    rw [yk_is_lt c]
    refine ⟨a.trans a', b.trans b', yk_sk_ag (fun i hi => d i ?_) d'⟩
    exact Nat.lt_of_lt_of_le hi (h7 k (by omega))
  · subst c
    rw [yk_is_eq]
    exact hat (by omega)
  · obtain ⟨a, b, d⟩ := hhi k c hk
    obtain ⟨a', b', d'⟩ := h (k - 1) (by omega)
    rw [yk_is_gt c]
    refine ⟨a.trans a', b.trans b', yk_sk_ag (fun i hi => d i ?_) d'⟩
    exact Nat.lt_of_lt_of_le hi (h7 (k - 1) (by omega))
