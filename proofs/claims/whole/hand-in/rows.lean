section
theorem pk_us {f : Nat → Int32} {k : Nat} {x : Int32} : upd f k x k = x := if_pos rfl
theorem pk_un {f : Nat → Int32} {k j : Nat} {x : Int32} (h : j ≠ k) : upd f k x j = f j := if_neg h
theorem pk_sub {a b : Nat} (h : b ≤ a) : nI a - nI b = nI (a - b) := by
  obtain ⟨c, rfl⟩ : ∃ c, a = c + b := ⟨a - b, by omega⟩
  rw [← nI_add, Int32.add_sub_cancel, Nat.add_sub_cancel]
theorem pk_m1 (n : Nat) : nI (n + 1) + (-1) = nI n := by
  rw [← nI_1, Int32.add_assoc, show (1 : Int32) + (-1) = 0 from rfl, Int32.add_zero]
theorem pk_mul (a b : Nat) : nI a * nI b = nI (a * b) := (Int32.ofNat_mul a b).symm
theorem pk_ix (x : Int32) {n : Nat} (hn : n < 2 ^ 31) : x < 0 ∨ nI n ≤ x ∨ ∃ j : Nat, j < n ∧ x = nI j := by
  by_cases h : x < 0
  · exact Or.inl h
  · obtain ⟨j, hj, rfl⟩ := nI_of h
    by_cases h2 : j < n
    · exact Or.inr (Or.inr ⟨j, h2, rfl⟩)
    · exact Or.inr (Or.inl (nI_le (by omega) hj))
theorem pk_le {x y : Int32} {A B : Prop} (a b : Nat) (f : a ≤ b → A) (g : b < a → B) (hx : x = nI a := by rfl) (hy : y = nI b := by rfl) (ha : a < 2 ^ 31 := by omega) (hb : b < 2 ^ 31 := by omega) : (x ≤ y → A) ∧ (¬ x ≤ y → B) := by
  subst hx hy
  rw [nI_leI ha hb]
  exact ⟨f, fun z => g (by omega)⟩
theorem pk_lt {x y : Int32} {A B : Prop} (a b : Nat) (f : a < b → A) (g : b ≤ a → B) (hx : x = nI a := by rfl) (hy : y = nI b := by rfl) (ha : a < 2 ^ 31 := by omega) (hb : b < 2 ^ 31 := by omega) : (x < y → A) ∧ (¬ x < y → B) := by
  subst hx hy
  rw [nI_ltI ha hb]
  exact ⟨f, fun z => g (by omega)⟩
theorem pk_eq {x y : Int32} {A B : Prop} (a b : Nat) (f : a = b → A) (g : a ≠ b → B) (hx : x = nI a := by rfl) (hy : y = nI b := by rfl) (ha : a < 2 ^ 31 := by omega) (hb : b < 2 ^ 31 := by omega) : (x = y → A) ∧ (¬ x = y → B) := by
  subst hx hy
  rw [nI_eq ha hb]
  exact ⟨f, g⟩
theorem pk_in {x : Int32} (n N : Nat) (h : n < N) (hx : x = nI n := by rfl) (hN : N < 2 ^ 31 := by omega) : vp_in x N := by
  subst hx
  exact vp_in_nI h hN
theorem pk_cl {x : Int32} (n : Nat) (hx : x = nI n := by rfl) (h : n < 2 ^ 31 := by omega) : x.toNatClampNeg = n := by
  subst hx
  exact nI_clamp h
end
section
/-! The pure picture: trails are lists of vertices, the last vertex first. -/
def yk_sh (v : Nat) : Int32 := (1 : Int32) <<< (nI v &&& 31)
def yk_mk : List Nat → Int32
  | [] => 0
  | v :: p => yk_mk p ||| yk_sh v
def yk_ln (w : Nat → Nat) : List Nat → Nat
  | [] => 0
  | [_] => 0
  | b :: a :: r => yk_ln w (a :: r) + w (7 * a + b)
def yk_ps (u v : Int32) : List Nat → Bool
  | [] => false
  | [_] => false
  | b :: a :: r => (decide (nI a = u) && decide (nI b = v)) || yk_ps u v (a :: r)
def yk_bl (ok : Nat → Nat → Bool) (p : List Nat) (v : Nat) : Bool := p.contains v || !(ok (p.headD 0) v)
def yk_in (ok : Nat → Nat → Bool) (t : Nat) (g : List Nat → List (List Nat)) (p : List Nat) : Nat → List (List Nat)
  | 0 => []
  | d + 1 => (if yk_bl ok p (6 - d) = true then [] else if 6 - d = t then [(6 - d) :: p] else g ((6 - d) :: p)) ++ yk_in ok t g p d
def yk_ds (ok : Nat → Nat → Bool) (t : Nat) : Nat → List Nat → List (List Nat)
  | 0 => fun _ => []
  | f + 1 => fun p => yk_in ok t (yk_ds ok t f) p 7

theorem yk_ln_le {w : Nat → Nat} (hw : ∀ c, w c ≤ 50) : ∀ p : List Nat, yk_ln w p ≤ 50 * p.length
  | [] => by simp [yk_ln]
  | [_] => by simp [yk_ln]
  | b :: a :: r => by
    have h := yk_ln_le hw (a :: r)
    have h2 := hw (7 * a + b)
    rw [yk_ln]
    simp only [List.length_cons] at h ⊢
    omega

theorem yk_in_ext {ok : Nat → Nat → Bool} {t : Nat} {g : List Nat → List (List Nat)} {p : List Nat} (hg : ∀ v q, q ∈ g (v :: p) → (v :: p) <:+ q) : ∀ d, d ≤ 7 → ∀ q, q ∈ yk_in ok t g p d → ∃ v, 7 ≤ v + d ∧ v < 7 ∧ (v :: p) <:+ q := by
  intro d
  induction d with
  | zero => intro _ q h; simp [yk_in] at h
  | succ d ih =>
    intro hd q h
    rw [yk_in] at h
    rcases List.mem_append.mp h with h | h
    · refine ⟨6 - d, by omega, by omega, ?_⟩
      split at h
      · simp at h
      · split at h
        · rw [List.mem_singleton.mp h]; exact ⟨[], rfl⟩
        · exact hg _ _ h
    · obtain ⟨v, h1, h2, h3⟩ := ih (by omega) q h
      exact ⟨v, by omega, h2, h3⟩

theorem yk_ds_ext {ok : Nat → Nat → Bool} {t : Nat} : ∀ f p q, q ∈ yk_ds ok t f p → p <:+ q := by
  intro f
  induction f with
  | zero => intro p q h; simp [yk_ds] at h
  | succ f ih =>
    intro p q h
    obtain ⟨v, _, _, z, rfl⟩ := yk_in_ext (fun v q hq => ih (v :: p) q hq) 7 (Nat.le_refl 7) q h
    exact ⟨z ++ [v], by simp⟩

def yk_lb : List Nat → List Nat → Prop
  | a :: q, b :: p => a < b ∨ (a = b ∧ yk_lb q p)
  | [], _ => True
  | _ :: _, [] => True

theorem yk_lb_app (c : List Nat) {v v' : Nat} (h : v < v') (q p : List Nat) : yk_lb (c ++ v :: q) (c ++ v' :: p) := by
  induction c with
  | nil => exact Or.inl h
  | cons x c ih => exact Or.inr ⟨rfl, ih⟩

def yk_pw (L : List (List Nat)) : Prop := L.Pairwise (fun q p => yk_lb q.reverse p.reverse)

theorem yk_in_pw {ok : Nat → Nat → Bool} {t : Nat} {g : List Nat → List (List Nat)} {p : List Nat} (hg : ∀ v q, q ∈ g (v :: p) → (v :: p) <:+ q) (hp : ∀ v, yk_pw (g (v :: p))) : ∀ d, d ≤ 7 → yk_pw (yk_in ok t g p d) := by
  intro d
  induction d with
  | zero => intro _; exact List.Pairwise.nil
  | succ d ih =>
    intro hd
    rw [yk_in]
    refine List.pairwise_append.mpr ⟨?_, ih (by omega), ?_⟩
    · split
      · exact List.Pairwise.nil
      · split
        · exact List.pairwise_singleton _ _
        · exact hp _
    · intro a ha b hb
      have hA : ((6 - d) :: p) <:+ a := by
        split at ha
        · simp at ha
        · split at ha
          · rw [List.mem_singleton.mp ha]; exact ⟨[], rfl⟩
          · exact hg _ _ ha
      obtain ⟨v, h1, h2, z', rfl⟩ := yk_in_ext hg d (by omega) b hb
      obtain ⟨z, rfl⟩ := hA
      rw [List.reverse_append, List.reverse_append, List.reverse_cons, List.reverse_cons, List.append_assoc, List.append_assoc]
      exact yk_lb_app p.reverse (by omega) _ _

theorem yk_ds_pw {ok : Nat → Nat → Bool} {t : Nat} : ∀ f p, yk_pw (yk_ds ok t f p) := by
  intro f
  induction f with
  | zero => intro p; exact List.Pairwise.nil
  | succ f ih =>
    intro p
    exact yk_in_pw (fun v q hq => yk_ds_ext f (v :: p) q hq) (fun v => ih (v :: p)) 7 (Nat.le_refl 7)

theorem yk_ps_cons {u v : Int32} (a : Nat) {l : List Nat} (h : yk_ps u v l = true) : yk_ps u v (a :: l) = true := by
  cases l with
  | nil => simp [yk_ps] at h
  | cons b l => rw [yk_ps, h, Bool.or_true]

theorem yk_ps_suf {u v : Int32} {l q : List Nat} (h : yk_ps u v l = true) (hs : l <:+ q) : yk_ps u v q = true := by
  obtain ⟨z, rfl⟩ := hs
  induction z with
  | nil => exact h
  | cons a z ih => exact yk_ps_cons a ih

theorem yk_in_fil {okX okY : Nat → Nat → Bool} {t : Nat} {u v : Int32} {g g' : List Nat → List (List Nat)} {p : List Nat}
    (hok : ∀ y, y < 7 → okX (p.headD 0) y = (okY (p.headD 0) y && !(decide (nI (p.headD 0) = u) && decide (nI y = v))))
    (hp : p ≠ []) (hps : yk_ps u v p = false)
    (hg' : ∀ y, y < 7 → yk_ps u v (y :: p) = false → g' (y :: p) = (g (y :: p)).filter (fun q => !yk_ps u v q))
    (hg : ∀ y q, q ∈ g (y :: p) → (y :: p) <:+ q) : ∀ d, d ≤ 7 → yk_in okX t g' p d = (yk_in okY t g p d).filter (fun q => !yk_ps u v q) := by
  intro d
  induction d with
  | zero => intro _; rfl
  | succ d ih =>
    intro hd
    rw [yk_in, yk_in, List.filter_append, ih (by omega)]
    congr 1
    have hy : 6 - d < 7 := by omega
    have hh := hok (6 - d) hy
    have hg'' := hg' (6 - d) hy
    have hg3 := hg (6 - d)
    have h1 : yk_ps u v ((6 - d) :: p) = (decide (nI (p.headD 0) = u) && decide (nI (6 - d) = v)) := by
      cases p with
      | nil => exact absurd rfl hp
      | cons x r => rw [yk_ps, hps, Bool.or_false]; rfl
    generalize 6 - d = y at *
    rw [← h1] at hh
    unfold yk_bl
    rw [hh]
    cases hc : p.contains y with
    | true => simp
    | false =>
      cases hY : okY (p.headD 0) y with
      | false => simp
      | true =>
        cases hP : yk_ps u v (y :: p) with
        | true =>
          simp only [Bool.false_or, Bool.not_true, Bool.and_false, Bool.not_false, if_true, Bool.false_eq_true, if_false]
          by_cases ht : y = t
          · rw [if_pos ht]; simp [hP]
          · rw [if_neg ht]
            symm
            rw [List.filter_eq_nil_iff]
            intro q hq
            rw [yk_ps_suf hP (hg3 q hq)]
            simp
        | false =>
          simp only [Bool.false_or, Bool.not_false, Bool.and_true, Bool.not_true, Bool.false_eq_true, if_false]
          by_cases ht : y = t
          · rw [if_pos ht, if_pos ht]; simp [hP]
          · rw [if_neg ht, if_neg ht]; exact hg'' hP

theorem yk_ds_fil {okX okY : Nat → Nat → Bool} {t : Nat} {u v : Int32}
    (hok : ∀ x y, x < 7 → y < 7 → okX x y = (okY x y && !(decide (nI x = u) && decide (nI y = v)))) : ∀ f p, p ≠ [] → p.headD 0 < 7 → yk_ps u v p = false → yk_ds okX t f p = (yk_ds okY t f p).filter (fun q => !yk_ps u v q) := by
  intro f
  induction f with
  | zero => intro p _ _ _; rfl
  | succ f ih =>
    intro p hp h7 hps
    exact yk_in_fil (fun y hy => hok _ y h7 hy) hp hps (fun y hy h => ih (y :: p) (by simp) hy h) (fun y q hq => yk_ds_ext f (y :: p) q hq) 7 (Nat.le_refl 7)
end
section
/-! The table of the first twelve, the free vertices, the masks. -/
def yk_rk (w : Nat → Nat) (T : Nat → List Nat) (l : Nat) : Nat → Nat
  | 0 => 0
  | n + 1 => if l < yk_ln w (T n) then yk_rk w T l n else n + 1
def yk_is (r : Nat) (p : List Nat) (T : Nat → List Nat) : Nat → List Nat := fun k => if k < r then T k else if k = r then p else T (k - 1)
def yk_ad (w : Nat → Nat) (A : Nat × (Nat → List Nat)) (p : List Nat) : Nat × (Nat → List Nat) := (if A.1 < 12 then A.1 + 1 else A.1, yk_is (yk_rk w A.2 (yk_ln w p) A.1) p A.2)
def yk_ac (w : Nat → Nat) (K : List (List Nat)) : Nat × (Nat → List Nat) := K.foldl (yk_ad w) (0, fun _ => [])
def yk_ms (K : List (List Nat)) : Int32 := K.foldl (fun m p => m &&& yk_mk p) 127
def yk_so (w : Nat → Nat) (A : Nat × (Nat → List Nat)) : Prop := ∀ j k, j ≤ k → k < A.1 → yk_ln w (A.2 j) ≤ yk_ln w (A.2 k)
def yk_iv (w : Nat → Nat) (K : List (List Nat)) (A : Nat × (Nat → List Nat)) : Prop := A.1 ≤ 12 ∧ (∀ k, k < A.1 → A.2 k ∈ K) ∧ yk_so w A

theorem yk_ac_s (w : Nat → Nat) (K : List (List Nat)) (p : List Nat) : yk_ac w (K ++ [p]) = yk_ad w (yk_ac w K) p := by
  unfold yk_ac; rw [List.foldl_append]; rfl
theorem yk_ms_s (K : List (List Nat)) (p : List Nat) : yk_ms (K ++ [p]) = yk_ms K &&& yk_mk p := by
  unfold yk_ms; rw [List.foldl_append]; rfl

theorem yk_rk_le (w : Nat → Nat) (T : Nat → List Nat) (l : Nat) : ∀ n, yk_rk w T l n ≤ n := by
  intro n
  induction n with
  | zero => exact Nat.le_refl 0
  | succ n ih => rw [yk_rk]; split <;> omega
theorem yk_rk_gt (w : Nat → Nat) (T : Nat → List Nat) (l : Nat) : ∀ n k, yk_rk w T l n ≤ k → k < n → l < yk_ln w (T k) := by
  intro n
  induction n with
  | zero => intro k _ h; omega
  | succ n ih =>
    intro k h hk
    rw [yk_rk] at h
    split at h
    · rename_i hl
      by_cases e : k = n
      · rw [e]; exact hl
      · exact ih k h (by omega)
    · omega
theorem yk_rk_at (w : Nat → Nat) (T : Nat → List Nat) (l : Nat) : ∀ n, 0 < yk_rk w T l n → yk_ln w (T (yk_rk w T l n - 1)) ≤ l := by
  intro n
  induction n with
  | zero => intro h; exact absurd h (Nat.lt_irrefl 0)
  | succ n ih =>
    rw [yk_rk]
    split
    · exact ih
    · rename_i hl; intro _; exact Nat.le_of_not_lt hl
theorem yk_rk_lo {w : Nat → Nat} {A : Nat × (Nat → List Nat)} (h : yk_so w A) (l k : Nat) (hk : k < yk_rk w A.2 l A.1) : yk_ln w (A.2 k) ≤ l := by
  have h1 := yk_rk_at w A.2 l A.1 (by omega)
  have h2 := yk_rk_le w A.2 l A.1
  exact Nat.le_trans (h k (yk_rk w A.2 l A.1 - 1) (by omega) (by omega)) h1

theorem yk_is_lt {r k : Nat} {p : List Nat} {T : Nat → List Nat} (h : k < r) : yk_is r p T k = T k := if_pos h
theorem yk_is_eq {r : Nat} {p : List Nat} {T : Nat → List Nat} : yk_is r p T r = p := by
  unfold yk_is; rw [if_neg (Nat.lt_irrefl r), if_pos rfl]
theorem yk_is_gt {r k : Nat} {p : List Nat} {T : Nat → List Nat} (h : r < k) : yk_is r p T k = T (k - 1) := by
  unfold yk_is; rw [if_neg (by omega), if_neg (by omega)]

theorem yk_ad_1 (w : Nat → Nat) (A : Nat × (Nat → List Nat)) (p : List Nat) : (yk_ad w A p).1 = if A.1 < 12 then A.1 + 1 else A.1 := rfl
theorem yk_ad_2 (w : Nat → Nat) (A : Nat × (Nat → List Nat)) (p : List Nat) : (yk_ad w A p).2 = yk_is (yk_rk w A.2 (yk_ln w p) A.1) p A.2 := rfl

theorem yk_iv_ad {w : Nat → Nat} {K : List (List Nat)} {A : Nat × (Nat → List Nat)} (h : yk_iv w K A) (p : List Nat) : yk_iv w (K ++ [p]) (yk_ad w A p) := by
  obtain ⟨h12, hm, hs⟩ := h
  have hn : (yk_ad w A p).1 ≤ A.1 + 1 ∧ (yk_ad w A p).1 ≤ 12 := by
    rw [yk_ad_1]; split <;> omega
  have hr := yk_rk_le w A.2 (yk_ln w p) A.1
  have hlo := fun k => yk_rk_lo hs (yk_ln w p) k
  have hgt := yk_rk_gt w A.2 (yk_ln w p) A.1
  refine ⟨hn.2, ?_, ?_⟩
  · intro k hk
    rw [yk_ad_2]
    rcases Nat.lt_trichotomy k (yk_rk w A.2 (yk_ln w p) A.1) with c | c | c
    · rw [yk_is_lt c]; exact List.mem_append_left _ (hm k (by omega))
    · rw [c, yk_is_eq]; exact List.mem_append_right _ (List.mem_singleton.mpr rfl)
    · rw [yk_is_gt c]; exact List.mem_append_left _ (hm (k - 1) (by omega))
  · intro j k hjk hk
    rw [yk_ad_2]
    rcases Nat.lt_trichotomy k (yk_rk w A.2 (yk_ln w p) A.1) with c | c | c
    · rw [yk_is_lt c, yk_is_lt (Nat.lt_of_le_of_lt hjk c)]; exact hs j k hjk (by omega)
    · rcases Nat.lt_or_ge j k with e | e
      · rw [c, yk_is_eq, yk_is_lt (by omega)]; exact hlo j (by omega)
      · have : j = k := by omega
        rw [this]; exact Nat.le_refl _
    · rw [yk_is_gt c]
      rcases Nat.lt_trichotomy j (yk_rk w A.2 (yk_ln w p) A.1) with e | e | e
      · rw [yk_is_lt e]; exact hs j (k - 1) (by omega) (by omega)
      · rw [e, yk_is_eq]; exact Nat.le_of_lt (hgt (k - 1) (by omega) (by omega))
      · rw [yk_is_gt e]; exact hs (j - 1) (k - 1) (by omega) (by omega)

theorem yk_iv_fo {w : Nat → Nat} : ∀ (K K0 : List (List Nat)) (A : Nat × (Nat → List Nat)), yk_iv w K0 A → yk_iv w (K0 ++ K) (K.foldl (yk_ad w) A) := by
  intro K
  induction K with
  | nil => intro K0 A h; rw [List.append_nil]; exact h
  | cons p K ih =>
    intro K0 A h
    have h1 := ih (K0 ++ [p]) (yk_ad w A p) (yk_iv_ad h p)
    rw [List.append_assoc] at h1
    exact h1
theorem yk_iv_ac (w : Nat → Nat) (K : List (List Nat)) : yk_iv w K (yk_ac w K) :=
  yk_iv_fo K [] (0, fun _ => []) ⟨Nat.zero_le 12, fun k hk => absurd hk (Nat.not_lt_zero k), fun _ k _ hk => absurd hk (Nat.not_lt_zero k)⟩

/-- the least length so far, NONE if there is none -/
def yk_sw (w : Nat → Nat) (A : Nat × (Nat → List Nat)) : Int32 := if A.1 = 0 then -2 else nI (yk_ln w (A.2 0))
theorem yk_n2 {n : Nat} (h : n < 2 ^ 31) : ¬ nI n = -2 := by
  intro e
  have h1 := nI_toInt h
  rw [e] at h1
  have h2 : (-2 : Int32).toInt = -2 := by decide
  omega
theorem yk_n1 {n : Nat} (h : n < 2 ^ 31) : ¬ nI n = -1 := by
  intro e
  have h1 := nI_toInt h
  rw [e] at h1
  have h2 : (-1 : Int32).toInt = -1 := by decide
  omega
theorem yk_ad_pos (w : Nat → Nat) (A : Nat × (Nat → List Nat)) (p : List Nat) : ¬ (yk_ad w A p).1 = 0 := by
  rw [yk_ad_1]; split <;> omega
theorem yk_sw_ad {w : Nat → Nat} {A : Nat × (Nat → List Nat)} (hs : yk_so w A) (p : List Nat) (hp : yk_ln w p < 2 ^ 31) (hT : 0 < A.1 → yk_ln w (A.2 0) < 2 ^ 31) :
    yk_sw w (yk_ad w A p) = if yk_sw w A = -2 ∨ nI (yk_ln w p) < yk_sw w A then nI (yk_ln w p) else yk_sw w A := by
  unfold yk_sw
  rw [if_neg (yk_ad_pos w A p), yk_ad_2]
  by_cases h0 : A.1 = 0
  · rw [if_pos h0, if_pos (Or.inl rfl), h0]
    exact congrArg (fun q => nI (yk_ln w q)) yk_is_eq
  · rw [if_neg h0]
    have hb := hT (by omega)
    have e : (nI (yk_ln w (A.2 0)) = -2 ∨ nI (yk_ln w p) < nI (yk_ln w (A.2 0))) ↔ yk_ln w p < yk_ln w (A.2 0) := by
      rw [nI_ltI hp hb]
      exact ⟨fun h => h.resolve_left (yk_n2 hb), Or.inr⟩
    by_cases hl : yk_ln w p < yk_ln w (A.2 0)
    · rw [if_pos (e.mpr hl)]
      have hr : yk_rk w A.2 (yk_ln w p) A.1 = 0 := by
        rcases Nat.eq_zero_or_pos (yk_rk w A.2 (yk_ln w p) A.1) with h | h
        · exact h
        · have := yk_rk_lo hs (yk_ln w p) 0 h
          omega
      rw [hr, yk_is_eq]
    · rw [if_neg (fun h => hl (e.mp h))]
      have hr : 0 < yk_rk w A.2 (yk_ln w p) A.1 := by
        rcases Nat.eq_zero_or_pos (yk_rk w A.2 (yk_ln w p) A.1) with h | h
        · exact absurd (yk_rk_gt w A.2 (yk_ln w p) A.1 0 (by omega) (by omega)) hl
        · exact h
      rw [yk_is_lt hr]

/-- how many of the last d vertices are free -/
def yk_cn (p : List Nat) : Nat → Nat
  | 0 => 0
  | d + 1 => (if p.contains (6 - d) = true then 0 else 1) + yk_cn p d
def yk_vt (p : List Nat) : Prop := p.Nodup ∧ ∀ x, x ∈ p → x < 7
theorem yk_cn_push {p : List Nat} {v : Nat} (hv : v < 7) (hp : p.contains v = false) : ∀ d, d ≤ 7 → yk_cn p d = yk_cn (v :: p) d + (if 7 ≤ v + d then 1 else 0) := by
  intro d
  induction d with
  | zero => intro _; rw [if_neg (by omega)]; rfl
  | succ d ih =>
    intro hd
    rw [yk_cn, yk_cn, ih (by omega), List.contains_cons]
    by_cases e : 6 - d = v
    · rw [e, hp, if_neg (show ¬ 7 ≤ v + d by omega), if_pos (show 7 ≤ v + (d + 1) by omega)]
      simp
      omega
    · have e2 : ((6 - d) == v) = false := by simp [e]
      rw [e2, Bool.false_or]
      by_cases h : 7 ≤ v + d
      · rw [if_pos h, if_pos (show 7 ≤ v + (d + 1) by omega)]; omega
      · rw [if_neg h, if_neg (show ¬ 7 ≤ v + (d + 1) by omega)]; omega
theorem yk_cn_all {p : List Nat} (h : yk_vt p) : p.length + yk_cn p 7 = 7 := by
  induction p with
  | nil => decide
  | cons v p ih =>
    obtain ⟨hn, hb⟩ := h
    have hv : v < 7 := hb v (List.mem_cons_self ..)
    obtain ⟨h1, h2⟩ := List.nodup_cons.mp hn
    have hc : p.contains v = false := by
      cases hc : p.contains v with
      | false => rfl
      | true => exact absurd (List.contains_iff_mem.mp hc) h1
    have h3 := ih ⟨h2, fun x hx => hb x (List.mem_cons_of_mem v hx)⟩
    have h4 := yk_cn_push hv hc 7 (Nat.le_refl 7)
    rw [if_pos (by omega)] at h4
    rw [List.length_cons]
    omega
theorem yk_vt_push {p : List Nat} {v : Nat} (h : yk_vt p) (hv : v < 7) (hp : p.contains v = false) : yk_vt (v :: p) := by
  refine ⟨List.nodup_cons.mpr ⟨?_, h.1⟩, ?_⟩
  · intro hm
    rw [List.contains_iff_mem.mpr hm] at hp
    exact Bool.noConfusion hp
  · intro x hx
    rcases List.mem_cons.mp hx with e | e
    · rw [e]; exact hv
    · exact h.2 x e
theorem yk_vt_room {p : List Nat} {v : Nat} (h : yk_vt p) (hv : v < 7) (hp : p.contains v = false) : p.length < 7 := by
  have := yk_cn_all (yk_vt_push h hv hp)
  rw [List.length_cons] at this
  omega
/-- the steps that a trail costs -/
def yk_co : Nat → Nat
  | 0 => 0
  | f + 1 => 8 + f * yk_co f

theorem yk_b1 : ∀ m, m < 128 → ∀ v, v < 7 → nI m ||| yk_sh v = nI (m ||| 2 ^ v) ∧ m ||| 2 ^ v < 128 := by decide +kernel
theorem yk_b2 : ∀ m, m < 128 → ∀ v, v < 7 → ∀ y, y < 7 → ((nI m ||| yk_sh y) &&& yk_sh v = 0 ↔ (nI m &&& yk_sh v = 0 ∧ y ≠ v)) := by decide +kernel
theorem yk_b3 : ∀ m, m < 128 → ∀ v, v < 7 → nI m &&& yk_sh v = 0 → (nI m ||| yk_sh v) &&& (yk_sh v ^^^ (-1)) = nI m := by decide +kernel
theorem yk_mk_n : ∀ p : List Nat, (∀ x, x ∈ p → x < 7) → ∃ m, m < 128 ∧ yk_mk p = nI m := by
  intro p
  induction p with
  | nil => intro _; exact ⟨0, by omega, rfl⟩
  | cons v p ih =>
    intro h
    obtain ⟨m, hm, e⟩ := ih (fun x hx => h x (List.mem_cons_of_mem v hx))
    have h1 := yk_b1 m hm v (h v (List.mem_cons_self ..))
    exact ⟨m ||| 2 ^ v, h1.2, by rw [yk_mk, e, h1.1]⟩
theorem yk_b0 : ∀ v, v < 7 → (0 : Int32) &&& yk_sh v = 0 := by decide +kernel
theorem yk_mk_in : ∀ p : List Nat, (∀ x, x ∈ p → x < 7) → ∀ v, v < 7 → (yk_mk p &&& yk_sh v = 0 ↔ p.contains v = false) := by
  intro p
  induction p with
  | nil => intro _ v hv; exact ⟨fun _ => rfl, fun _ => yk_b0 v hv⟩
  | cons y p ih =>
    intro h v hv
    have hp := fun x hx => h x (List.mem_cons_of_mem y hx)
    obtain ⟨m, hm, e⟩ := yk_mk_n p hp
    have h1 := ih hp v hv
    rw [e] at h1
    rw [yk_mk, e, yk_b2 m hm v hv y (h y (List.mem_cons_self ..)), h1, List.contains_cons]
    constructor
    · intro ⟨a, b⟩
      rw [a, Bool.or_false]
      exact beq_eq_false_iff_ne.mpr (fun e => b e.symm)
    · intro a
      rw [Bool.or_eq_false_iff] at a
      exact ⟨a.2, fun e => beq_eq_false_iff_ne.mp a.1 e.symm⟩
theorem yk_mk_pop {p : List Nat} {v : Nat} (h : ∀ x, x ∈ p → x < 7) (hv : v < 7) (hc : p.contains v = false) : (yk_mk (v :: p)) &&& (yk_sh v ^^^ (-1)) = yk_mk p := by
  have h1 := (yk_mk_in p h v hv).mpr hc
  obtain ⟨m, hm, e⟩ := yk_mk_n p h
  rw [e] at h1
  rw [yk_mk, e]
  exact yk_b3 m hm v hv h1

/-- an array spells a trail -/
def yk_sk : List Nat → (Nat → Int32) → Prop
  | [], _ => True
  | v :: r, g => g r.length = nI v ∧ yk_sk r g
theorem yk_sk_ag : ∀ {p : List Nat} {g g' : Nat → Int32}, (∀ i, i < p.length → g' i = g i) → yk_sk p g → yk_sk p g' := by
  intro p
  induction p with
  | nil => intro _ _ _ _; exact True.intro
  | cons v r ih =>
    intro g g' h hs
    exact ⟨(h r.length (by rw [List.length_cons]; omega)).trans hs.1, ih (fun i hi => h i (by rw [List.length_cons]; omega)) hs.2⟩
/-- an array holds the lengths along a trail -/
def yk_tl (w : Nat → Nat) : List Nat → (Nat → Int32) → Prop
  | [], _ => True
  | v :: r, g => g r.length = nI (yk_ln w (v :: r)) ∧ yk_tl w r g
theorem yk_tl_ag {w : Nat → Nat} : ∀ {p : List Nat} {g g' : Nat → Int32}, (∀ i, i < p.length → g' i = g i) → yk_tl w p g → yk_tl w p g' := by
  intro p
  induction p with
  | nil => intro _ _ _ _; exact True.intro
  | cons v r ih =>
    intro g g' h hs
    exact ⟨(h r.length (by rw [List.length_cons]; omega)).trans hs.1, ih (fun i hi => h i (by rw [List.length_cons]; omega)) hs.2⟩
/-- the arrays hold the table -/
def yk_tb (w : Nat → Nat) (A : Nat × (Nat → List Nat)) (le si ve : Nat → Int32) : Prop :=
  ∀ k, k < A.1 → le k = nI (yk_ln w (A.2 k)) ∧ si k = nI (A.2 k).length ∧ yk_sk (A.2 k) (fun i => ve (7 * k + i))
theorem yk_tb_ad {w : Nat → Nat} {A : Nat × (Nat → List Nat)} {p : List Nat} {le si ve le' si' ve' : Nat → Int32} (h : yk_tb w A le si ve) (h7 : ∀ k, k < A.1 → (A.2 k).length ≤ 7)
    (r : Nat) (hr : r = yk_rk w A.2 (yk_ln w p) A.1)
    (hlo : ∀ k, k < r → k < 12 → le' k = le k ∧ si' k = si k ∧ ∀ i, i < 7 → ve' (7 * k + i) = ve (7 * k + i))
    (hat : r < 12 → le' r = nI (yk_ln w p) ∧ si' r = nI p.length ∧ yk_sk p (fun i => ve' (7 * r + i)))
    (hhi : ∀ k, r < k → k < (yk_ad w A p).1 → le' k = le (k - 1) ∧ si' k = si (k - 1) ∧ ∀ i, i < 7 → ve' (7 * k + i) = ve (7 * (k - 1) + i)) (h12 : A.1 ≤ 12) :
    yk_tb w (yk_ad w A p) le' si' ve' := by
  intro k hk
  have hrn := yk_rk_le w A.2 (yk_ln w p) A.1
  rw [← hr] at hrn
  have hn : (yk_ad w A p).1 ≤ A.1 + 1 ∧ (yk_ad w A p).1 ≤ 12 := by
    rw [yk_ad_1]; split <;> omega
  rw [yk_ad_2, ← hr]
  rcases Nat.lt_trichotomy k r with c | c | c
  · obtain ⟨a, b, d⟩ := hlo k c (by omega)
    obtain ⟨a', b', d'⟩ := h k (by omega)
    rw [yk_is_lt c]
    refine ⟨a.trans a', b.trans b', yk_sk_ag (fun i hi => d i ?_) d'⟩
    exact Nat.lt_of_lt_of_le hi (h7 k (by omega))
  · subst c
    rw [yk_is_eq]
    exact hat (by omega)
  · obtain ⟨a, b, d⟩ := hhi k c hk
    obtain ⟨a', b', d'⟩ := h (k - 1) (by omega)
    rw [yk_is_gt c]
    refine ⟨a.trans a', b.trans b', yk_sk_ag (fun i hi => d i ?_) d'⟩
    exact Nat.lt_of_lt_of_le hi (h7 (k - 1) (by omega))
end
section
/-! The same trails read forward, as the scanning loops meet them. -/
def yk_fw : List Nat → (Nat → Int32) → Nat → Prop
  | [], _, _ => True
  | x :: l, g, i => g i = nI x ∧ yk_fw l g (i + 1)
theorem yk_fw_app : ∀ {l : List Nat} {g : Nat → Int32} {i x : Nat}, yk_fw l g i → g (i + l.length) = nI x → yk_fw (l ++ [x]) g i := by
  intro l
  induction l with
  | nil => intro g i x _ h; exact ⟨h, True.intro⟩
  | cons y l ih =>
    intro g i x h hx
    refine ⟨h.1, ih h.2 ?_⟩
    rw [List.length_cons] at hx
    rw [← hx]
    congr 1
    omega
theorem yk_fw_sk : ∀ {p : List Nat} {g : Nat → Int32}, yk_sk p g → yk_fw p.reverse g 0 := by
  intro p
  induction p with
  | nil => intro g _; exact True.intro
  | cons v r ih =>
    intro g h
    rw [List.reverse_cons]
    refine yk_fw_app (ih h.2) ?_
    rw [List.length_reverse, Nat.zero_add]
    exact h.1
def yk_pf (u v : Int32) : Nat → List Nat → Bool
  | _, [] => false
  | a, b :: l => (decide (nI a = u) && decide (nI b = v)) || yk_pf u v b l
def yk_pg (u v : Int32) : List Nat → Bool
  | [] => false
  | a :: l => yk_pf u v a l
theorem yk_pf_app (u v : Int32) (b c : Nat) : ∀ (l : List Nat) (a : Nat), yk_pf u v a (l ++ [b] ++ [c]) = (yk_pf u v a (l ++ [b]) || (decide (nI b = u) && decide (nI c = v))) := by
  intro l
  induction l with
  | nil =>
    intro a
    simp only [List.nil_append, List.cons_append, yk_pf, Bool.or_false]
  | cons x l ih =>
    intro a
    have h := ih x
    simp only [List.cons_append, yk_pf] at h ⊢
    rw [h, Bool.or_assoc]
theorem yk_pg_ps (u v : Int32) : ∀ p : List Nat, yk_pg u v p.reverse = yk_ps u v p
  | [] => rfl
  | [_] => rfl
  | [b, a] => by
    simp only [List.reverse_cons, List.reverse_nil, List.nil_append, List.cons_append, yk_pg, yk_pf, yk_ps]
  | c :: b :: a :: r => by
    have h := yk_pg_ps u v (b :: a :: r)
    rw [yk_ps, ← h, List.reverse_cons, List.reverse_cons]
    have h2 : (a :: r).reverse ≠ [] := by simp
    cases he : (a :: r).reverse with
    | nil => exact absurd he h2
    | cons x l =>
      have h3 := yk_pf_app u v b c l x
      show yk_pf u v x (l ++ [b] ++ [c]) = (_ || yk_pf u v x (l ++ [b]))
      rw [h3, Bool.or_comm]
def yk_lf (w : Nat → Nat) : Nat → List Nat → Nat
  | _, [] => 0
  | a, b :: l => w (7 * a + b) + yk_lf w b l
def yk_lg (w : Nat → Nat) : List Nat → Nat
  | [] => 0
  | a :: l => yk_lf w a l
theorem yk_lf_app (w : Nat → Nat) (b c : Nat) : ∀ (l : List Nat) (a : Nat), yk_lf w a (l ++ [b] ++ [c]) = yk_lf w a (l ++ [b]) + w (7 * b + c) := by
  intro l
  induction l with
  | nil =>
    intro a
    simp only [List.nil_append, List.cons_append, yk_lf, Nat.add_zero]
  | cons x l ih =>
    intro a
    have h := ih x
    simp only [List.cons_append, yk_lf] at h ⊢
    rw [h, Nat.add_assoc]
theorem yk_lg_ln (w : Nat → Nat) : ∀ p : List Nat, yk_lg w p.reverse = yk_ln w p
  | [] => rfl
  | [_] => rfl
  | [b, a] => by
    simp only [List.reverse_cons, List.reverse_nil, List.nil_append, List.cons_append, yk_lg, yk_lf, yk_ln, Nat.add_zero, Nat.zero_add]
  | c :: b :: a :: r => by
    have h := yk_lg_ln w (b :: a :: r)
    rw [yk_ln, ← h, List.reverse_cons, List.reverse_cons]
    have h2 : (a :: r).reverse ≠ [] := by simp
    cases he : (a :: r).reverse with
    | nil => exact absurd he h2
    | cons x l => exact yk_lf_app w b c l x
theorem yk_mk_fo : ∀ p : List Nat, p.reverse.foldl (fun m x => m ||| yk_sh x) 0 = yk_mk p := by
  intro p
  rw [List.foldl_reverse]
  induction p with
  | nil => rfl
  | cons v p ih => rw [List.foldr_cons, ih]; rfl
theorem yk_cr {p : List Nat} {v : Nat} : p.reverse.contains v = p.contains v := by
  rw [Bool.eq_iff_iff, List.contains_iff_mem, List.contains_iff_mem, List.mem_reverse]
end
section
/-! One depth-first walk for both sides, over four rules of a machine. -/
def yk_R1 {S : Type} (W : Nat → Nat → S → Prop) (J : List Nat → List (List Nat) → S → Prop) (nx : S → Nat → Int32) (B t : Nat) : Prop :=
  ∀ x r K s k, yk_vt (x :: r) → J (x :: r) K s → nx s (r.length + 1) = nI 7 → x ≠ t → k + 2 ≤ B →
    ∃ s', J r K s' ∧ (∀ i, i ≤ r.length → nx s' i = nx s i) ∧ ∀ n, W n (k + 1) s' → W (n + 1) k s
def yk_R2 {S : Type} (W : Nat → Nat → S → Prop) (J : List Nat → List (List Nat) → S → Prop) (nx : S → Nat → Int32) (B : Nat) (ok : Nat → Nat → Bool) (t : Nat) : Prop :=
  ∀ x r K s k v, yk_vt (x :: r) → J (x :: r) K s → v < 7 → nx s (r.length + 1) = nI v → x ≠ t → yk_bl ok (x :: r) v = true → k + 2 ≤ B →
    ∃ s', J (x :: r) K s' ∧ nx s' (r.length + 1) = nI (v + 1) ∧ (∀ i, i ≤ r.length → nx s' i = nx s i) ∧ ∀ n, W n (k + 1) s' → W (n + 1) k s
def yk_R3 {S : Type} (W : Nat → Nat → S → Prop) (J : List Nat → List (List Nat) → S → Prop) (nx : S → Nat → Int32) (B : Nat) (ok : Nat → Nat → Bool) (t : Nat) : Prop :=
  ∀ x r K s k v, yk_vt (v :: x :: r) → J (x :: r) K s → v < 7 → nx s (r.length + 1) = nI v → x ≠ t → yk_bl ok (x :: r) v = false → v ≠ t → k + 2 ≤ B →
    ∃ s', J (v :: x :: r) K s' ∧ nx s' (r.length + 2) = nI 0 ∧ nx s' (r.length + 1) = nI (v + 1) ∧ (∀ i, i ≤ r.length → nx s' i = nx s i) ∧ ∀ n, W n (k + 1) s' → W (n + 1) k s
def yk_R4 {S : Type} (W : Nat → Nat → S → Prop) (J : List Nat → List (List Nat) → S → Prop) (nx : S → Nat → Int32) (B : Nat) (ok : Nat → Nat → Bool) (t : Nat) : Prop :=
  ∀ x r K s k v, yk_vt (v :: x :: r) → J (x :: r) K s → v < 7 → nx s (r.length + 1) = nI v → x ≠ t → yk_bl ok (x :: r) v = false → v = t → k + 2 ≤ B → yk_pw (K ++ [v :: x :: r]) →
    ∃ s' c, c ≤ 2 ∧ J (x :: r) (K ++ [v :: x :: r]) s' ∧ nx s' (r.length + 1) = nI (v + 1) ∧ (∀ i, i ≤ r.length → nx s' i = nx s i) ∧ ∀ n, W n (k + c) s' → W (n + c) k s

theorem yk_pw_l {A B : List (List Nat)} (h : yk_pw (A ++ B)) : yk_pw A := (List.pairwise_append.mp h).1
theorem yk_bl_c {ok : Nat → Nat → Bool} {p : List Nat} {v : Nat} (h : yk_bl ok p v = false) : p.contains v = false := (Bool.or_eq_false_iff.mp h).1

theorem yk_lev {S : Type} {W : Nat → Nat → S → Prop} {J : List Nat → List (List Nat) → S → Prop} {nx : S → Nat → Int32} {B : Nat} {ok : Nat → Nat → Bool} {t : Nat}
    (r1 : yk_R1 W J nx B t) (r2 : yk_R2 W J nx B ok t) (r3 : yk_R3 W J nx B ok t) (r4 : yk_R4 W J nx B ok t)
    (g : List Nat → List (List Nat)) (C x : Nat) (r : List Nat) (hv : yk_vt (x :: r)) (hx : x ≠ t)
    (hC : ∀ v, v < 7 → (x :: r).contains v = false → 1 ≤ C)
    (hch : ∀ v, v < 7 → (x :: r).contains v = false → v ≠ t → ∀ s k K, J (v :: x :: r) K s → nx s (r.length + 2) = nI 0 → yk_pw (K ++ g (v :: x :: r)) → k + C + 1 ≤ B →
      ∃ s' c, J (x :: r) (K ++ g (v :: x :: r)) s' ∧ (∀ i, i ≤ r.length + 1 → nx s' i = nx s i) ∧ c ≤ C ∧ ∀ n, W n (k + c) s' → W (n + c) k s) :
    ∀ d, d ≤ 7 → ∀ s k K, J (x :: r) K s → nx s (r.length + 1) = nI (7 - d) → yk_pw (K ++ yk_in ok t g (x :: r) d) → k + (d + 1 + yk_cn (x :: r) d * C) + 1 ≤ B →
      ∃ s' c, J r (K ++ yk_in ok t g (x :: r) d) s' ∧ (∀ i, i ≤ r.length → nx s' i = nx s i) ∧ c ≤ d + 1 + yk_cn (x :: r) d * C ∧ ∀ n, W n (k + c) s' → W (n + c) k s := by
  intro d
  induction d with
  | zero =>
    intro _ s k K hJ hn _ hB
    obtain ⟨s', h1, h2, h3⟩ := r1 x r K s k hv hJ hn hx (by omega)
    refine ⟨s', 1, ?_, h2, by omega, h3⟩
    rw [yk_in, List.append_nil]
    exact h1
  | succ d ih =>
    intro hd s k K hJ hn hp hB
    have e1 : 7 - (d + 1) = 6 - d := by omega
    have e2 : 6 - d + 1 = 7 - d := by omega
    have hlt : 6 - d < 7 := by omega
    rw [e1] at hn
    rw [yk_in] at hp ⊢
    rw [yk_cn] at hB ⊢
    cases hb : yk_bl ok (x :: r) (6 - d) with
    | true =>
      rw [hb, if_pos rfl, List.nil_append] at hp
      rw [if_pos rfl, List.nil_append]
      have hm : yk_cn (x :: r) d * C ≤ ((if (x :: r).contains (6 - d) = true then 0 else 1) + yk_cn (x :: r) d) * C := Nat.mul_le_mul_right C (Nat.le_add_left _ _)
      obtain ⟨s1, a1, a2, a3, a4⟩ := r2 x r K s k (6 - d) hv hJ hlt hn hx hb (by omega)
      rw [e2] at a2
      obtain ⟨s', c, b1, b2, b3, b4⟩ := ih (by omega) s1 (k + 1) K a1 a2 hp (by omega)
      refine ⟨s', c + 1, b1, fun i hi => (b2 i hi).trans (a3 i hi), by omega, fun n h => ?_⟩
      have h' : W n (k + 1 + c) s' := by rw [Nat.add_assoc, Nat.add_comm 1 c]; exact h
      exact a4 (n + c) (b4 n h')
    | false =>
      have hc := yk_bl_c hb
      have hC1 := hC _ hlt hc
      rw [hb] at hp
      rw [hc] at hB ⊢
      simp only [Bool.false_eq_true, if_false] at hp hB ⊢
      rw [Nat.add_mul, Nat.one_mul] at hB ⊢
      have hvv := yk_vt_push hv hlt hc
      by_cases ht : 6 - d = t
      · rw [if_pos ht, ← List.append_assoc] at hp
        rw [if_pos ht, ← List.append_assoc]
        obtain ⟨s1, c1, a0, a1, a2, a3, a4⟩ := r4 x r K s k (6 - d) hvv hJ hlt hn hx hb ht (by omega) (yk_pw_l hp)
        rw [e2] at a2
        obtain ⟨s', c, b1, b2, b3, b4⟩ := ih (by omega) s1 (k + c1) (K ++ [(6 - d) :: x :: r]) a1 a2 hp (by omega)
        refine ⟨s', c + c1, b1, fun i hi => (b2 i hi).trans (a3 i hi), by omega, fun n h => ?_⟩
        have h' : W n (k + c1 + c) s' := by rw [Nat.add_assoc, Nat.add_comm c1 c]; exact h
        rw [← Nat.add_assoc]
        exact a4 (n + c) (b4 n h')
      · rw [if_neg ht, ← List.append_assoc] at hp
        rw [if_neg ht, ← List.append_assoc]
        obtain ⟨s1, a1, a2, a3, a4, a5⟩ := r3 x r K s k (6 - d) hvv hJ hlt hn hx hb ht (by omega)
        obtain ⟨s2, c2, b1, b2, b3, b4⟩ := hch (6 - d) hlt hc ht s1 (k + 1) K a1 a2 (yk_pw_l hp) (by omega)
        have hn2 : nx s2 (r.length + 1) = nI (7 - d) := by rw [b2 _ (Nat.le_refl _), a3, e2]
        obtain ⟨s', c, d1, d2, d3, d4⟩ := ih (by omega) s2 (k + 1 + c2) _ b1 hn2 hp (by omega)
        refine ⟨s', c + c2 + 1, d1, fun i hi => (d2 i hi).trans ((b2 i (by omega)).trans (a4 i hi)), by omega, fun n h => ?_⟩
        have h' : W n (k + 1 + c2 + c) s' := by
          have e : k + 1 + c2 + c = k + (c + c2 + 1) := by omega
          rw [e]; exact h
        have h2 := a5 (n + c + c2) (b4 (n + c) (d4 n h'))
        have e : n + (c + c2 + 1) = n + c + c2 + 1 := by omega
        rw [e]
        exact h2

theorem yk_dfs {S : Type} {W : Nat → Nat → S → Prop} {J : List Nat → List (List Nat) → S → Prop} {nx : S → Nat → Int32} {B : Nat} {ok : Nat → Nat → Bool} {t : Nat}
    (r1 : yk_R1 W J nx B t) (r2 : yk_R2 W J nx B ok t) (r3 : yk_R3 W J nx B ok t) (r4 : yk_R4 W J nx B ok t) :
    ∀ f x r, yk_vt (x :: r) → x ≠ t → yk_cn (x :: r) 7 ≤ f → ∀ s k K, J (x :: r) K s → nx s (r.length + 1) = nI 0 → yk_pw (K ++ yk_ds ok t (f + 1) (x :: r)) → k + yk_co (f + 1) + 1 ≤ B →
      ∃ s' c, J r (K ++ yk_ds ok t (f + 1) (x :: r)) s' ∧ (∀ i, i ≤ r.length → nx s' i = nx s i) ∧ c ≤ yk_co (f + 1) ∧ ∀ n, W n (k + c) s' → W (n + c) k s := by
  intro f
  induction f with
  | zero =>
    intro x r hv hx hf s k K hJ hn hp hB
    have hno : ∀ v, v < 7 → (x :: r).contains v = false → False := by
      intro v h7 hc
      have h := yk_cn_push h7 hc 7 (Nat.le_refl 7)
      rw [if_pos (by omega)] at h
      omega
    have e : yk_cn (x :: r) 7 = 0 := by omega
    have h := yk_lev r1 r2 r3 r4 (yk_ds ok t 0) 0 x r hv hx (fun v h7 hc => (hno v h7 hc).elim) (fun v h7 hc => (hno v h7 hc).elim) 7 (Nat.le_refl 7) s k K hJ hn hp
    rw [e] at h
    exact h hB
  | succ f ih =>
    intro x r hv hx hf s k K hJ hn hp hB
    have hm : yk_cn (x :: r) 7 * yk_co (f + 1) ≤ (f + 1) * yk_co (f + 1) := Nat.mul_le_mul_right _ hf
    have e8 : yk_co (f + 1 + 1) = 8 + (f + 1) * yk_co (f + 1) := rfl
    have hco : 1 ≤ yk_co (f + 1) := by
      have : yk_co (f + 1) = 8 + f * yk_co f := rfl
      omega
    obtain ⟨s', c, b1, b2, b3, b4⟩ := yk_lev r1 r2 r3 r4 (yk_ds ok t (f + 1)) (yk_co (f + 1)) x r hv hx (fun _ _ _ => hco)
      (fun v h7 hc ht s k K hJ hn hp hB => by
        have h := yk_cn_push h7 hc 7 (Nat.le_refl 7)
        rw [if_pos (by omega)] at h
        exact ih v (x :: r) (yk_vt_push hv h7 hc) ht (by omega) s k K hJ hn hp hB)
      7 (Nat.le_refl 7) s k K hJ hn hp (by omega)
    exact ⟨s', c, b1, b2, by omega, b4⟩
end
section
/-! What the two insertions leave in their arrays. -/
def yk_s1 (r m : Nat) (f : Nat → Int32) : Nat → Int32 := fun j => if r < j ∧ j < m then f (j - 1) else f j
def yk_s7 (r m : Nat) (f : Nat → Int32) : Nat → Int32 := fun j => if 7 * r + 7 ≤ j ∧ j < 7 * m then f (j - 7) else f j
def yk_cp (k i : Nat) (f : Nat → Int32) : Nat → Int32 := fun j => if 7 * k ≤ j ∧ j < 7 * k + i then f (j - 7) else f j
def yk_pl (r i : Nat) (h f : Nat → Int32) : Nat → Int32 := fun j => if 7 * r ≤ j ∧ j < 7 * r + i then h (j - 7 * r) else f j

theorem yk_cp_0 (k : Nat) (f : Nat → Int32) : yk_cp k 0 f = f := by
  funext j; exact if_neg (by omega)
theorem yk_cp_r {k i j : Nat} (f : Nat → Int32) (h : j < 7 * k) : yk_cp k i f j = f j := if_neg (by omega)
theorem yk_cp_s {k i : Nat} (f : Nat → Int32) : upd (yk_cp k i f) (7 * k + i) (f (7 * k + i - 7)) = yk_cp k (i + 1) f := by
  funext j
  by_cases h : j = 7 * k + i
  · subst h
    rw [pk_us]
    exact (if_pos (by omega)).symm
  · rw [pk_un h]
    by_cases h2 : 7 * k ≤ j ∧ j < 7 * k + i
    · exact (if_pos h2).trans (if_pos (by omega)).symm
    · exact (if_neg h2).trans (if_neg (by omega)).symm
theorem yk_s1_t {k m : Nat} (f : Nat → Int32) (h : m ≤ k + 1) : yk_s1 k m f = f := by
  funext j; exact if_neg (by omega)
theorem yk_s7_t {k m : Nat} (f : Nat → Int32) (h : m ≤ k + 1) : yk_s7 k m f = f := by
  funext j; exact if_neg (by omega)
theorem yk_s1_r {k m j : Nat} (f : Nat → Int32) (h : j ≤ k) : yk_s1 k m f j = f j := if_neg (by omega)
theorem yk_s1_s {k m : Nat} (f : Nat → Int32) (h : k + 1 < m) : upd (yk_s1 (k + 1) m f) (k + 1) (f k) = yk_s1 k m f := by
  funext j
  by_cases e : j = k + 1
  · subst e
    rw [pk_us]
    exact (if_pos (by omega)).symm
  · rw [pk_un e]
    by_cases h2 : k + 1 < j ∧ j < m
    · exact (if_pos h2).trans (if_pos (by omega)).symm
    · exact (if_neg h2).trans (if_neg (by omega)).symm
theorem yk_s7_s {k m : Nat} (f : Nat → Int32) (h : k + 1 < m) : yk_cp (k + 1) 7 (yk_s7 (k + 1) m f) = yk_s7 k m f := by
  funext j
  by_cases h1 : 7 * (k + 1) ≤ j ∧ j < 7 * (k + 1) + 7
  · refine (if_pos h1).trans ?_
    exact (if_neg (by omega)).trans (if_pos (by omega)).symm
  · refine (if_neg h1).trans ?_
    by_cases h2 : 7 * (k + 1) + 7 ≤ j ∧ j < 7 * m
    · exact (if_pos h2).trans (if_pos (by omega)).symm
    · exact (if_neg h2).trans (if_neg (by omega)).symm
theorem yk_pl_0 (r : Nat) (h f : Nat → Int32) : yk_pl r 0 h f = f := by
  funext j; exact if_neg (by omega)
theorem yk_pl_s {r i : Nat} (h f : Nat → Int32) : upd (yk_pl r i h f) (7 * r + i) (h i) = yk_pl r (i + 1) h f := by
  funext j
  by_cases e : j = 7 * r + i
  · subst e
    rw [pk_us]
    refine ((if_pos (by omega)).trans ?_).symm
    congr 1
    omega
  · rw [pk_un e]
    by_cases h2 : 7 * r ≤ j ∧ j < 7 * r + i
    · exact (if_pos h2).trans (if_pos (by omega)).symm
    · exact (if_neg h2).trans (if_neg (by omega)).symm
theorem yk_pl_sk {p : List Nat} {r : Nat} {h : Nat → Int32} (f : Nat → Int32) (hs : yk_sk p h) : yk_sk p (fun i => yk_pl r p.length h f (7 * r + i)) := by
  refine yk_sk_ag (fun i hi => ?_) hs
  refine (if_pos (by omega)).trans ?_
  congr 1
  omega
/-- the new table, as both sides leave it -/
theorem yk_tb_put {w : Nat → Nat} {A : Nat × (Nat → List Nat)} {p : List Nat} {le si ve h : Nat → Int32} (hT : yk_tb w A le si ve) (h7 : ∀ k, k < A.1 → (A.2 k).length ≤ 7) (hp : p.length ≤ 7)
    (h12 : A.1 ≤ 12) (r m : Nat) (hr : r = yk_rk w A.2 (yk_ln w p) A.1) (hm : (yk_ad w A p).1 ≤ m) (hs : yk_sk p h) :
    yk_tb w (yk_ad w A p) (upd (yk_s1 r m le) r (nI (yk_ln w p))) (upd (yk_s1 r m si) r (nI p.length)) (yk_pl r p.length h (yk_s7 r m ve)) := by
  refine yk_tb_ad hT h7 r hr ?_ ?_ ?_ h12
  · intro k hk _
    refine ⟨?_, ?_, ?_⟩
    · rw [pk_un (by omega), yk_s1_r _ (by omega)]
    · rw [pk_un (by omega), yk_s1_r _ (by omega)]
    · intro i hi
      exact (if_neg (by omega)).trans (if_neg (by omega))
  · intro _
    exact ⟨pk_us, pk_us, yk_pl_sk _ hs⟩
  · intro k hk hk2
    refine ⟨?_, ?_, ?_⟩
    · rw [pk_un (by omega)]; exact if_pos (by omega)
    · rw [pk_un (by omega)]; exact if_pos (by omega)
    · intro i hi
      refine (if_neg (by omega)).trans ((if_pos (by omega)).trans ?_)
      congr 1
      omega
/-- the table that is left alone, where the new path comes behind the twelfth -/
theorem yk_tb_stay {w : Nat → Nat} {A : Nat × (Nat → List Nat)} {p : List Nat} {le si ve : Nat → Int32} (hT : yk_tb w A le si ve) (h7 : ∀ k, k < A.1 → (A.2 k).length ≤ 7)
    (h12 : A.1 ≤ 12) (hr : 12 = yk_rk w A.2 (yk_ln w p) A.1) : yk_tb w (yk_ad w A p) le si ve := by
  have hn : (yk_ad w A p).1 ≤ 12 := by rw [yk_ad_1]; split <;> omega
  exact yk_tb_ad hT h7 12 hr (fun k _ _ => ⟨rfl, rfl, fun _ _ => rfl⟩) (fun h => absurd h (Nat.lt_irrefl 12)) (fun k hk hk2 => by omega) h12
end
section
/-! The component's small methods, each with its exact end. -/
def yk_si (v : Int32) : Int32 := (1 : Int32) <<< (v &&& 31)
theorem yx_stepTo {post : SX → Prop} {so ta ra oe la ot : Int32} {aw al az av tv tl nt : Nat → Int32} {v l : Int32} {m : Nat} (hm : m < 7) (hl : la + 1 = nI m)
    (h : post (so, ta, ra, oe, nI m, ot ||| yk_si v, aw, al, az, av, upd tv m v, upd tl m l, upd nt m 0)) : wpX_stepTo post (so, ta, ra, oe, la, ot, aw, al, az, av, tv, tl, nt) v l := by
  unfold wpX_stepTo
  dsimp only
  refine nm_r hl ?_
  rw [nI_clamp (show m < 2 ^ 31 by omega)]
  have hi := vp_in_nI (N := 7) hm (by omega)
  exact ⟨hi, nm_e ⟨hi, nm_e ⟨hi, nm_e (nm_e h)⟩⟩⟩

theorem yx_stepBack {post : SX → Prop} {so ta ra oe la ot : Int32} {aw al az av tv tl nt : Nat → Int32} {m v : Nat} (hm : m < 7) (hl : la = nI m) (hv : tv m = nI v)
    (h : post (so, ta, ra, oe, nI m - 1, ot &&& (yk_sh v ^^^ (-1)), aw, al, az, av, tv, tl, nt)) : wpX_stepBack post (so, ta, ra, oe, la, ot, aw, al, az, av, tv, tl, nt) := by
  subst hl
  unfold wpX_stepBack
  dsimp only
  rw [nI_clamp (show m < 2 ^ 31 by omega), hv]
  exact ⟨vp_in_nI hm (by omega), nm_e (nm_e h)⟩

theorem yx_rankOf_5 {post : Int32 → Prop} {so ta ra oe la ot : Int32} {aw al az av tv tl nt : Nat → Int32} {w : Nat → Nat} {T : Nat → List Nat} {l : Nat} (hl : l < 2 ^ 31) :
    ∀ n, n ≤ 12 → (∀ k, k < n → al k = nI (yk_ln w (T k))) → (∀ k, k < n → yk_ln w (T k) < 2 ^ 31) → post (nI (yk_rk w T l n)) →
      ∀ f, n < f → wX_rankOf_5 post (nI l) so ta ra oe la ot aw al az av tv tl nt f (nI n) := by
  intro n
  induction n with
  | zero =>
    intro _ _ _ h f hf
    obtain ⟨f, rfl⟩ : ∃ g, f = g + 1 := ⟨f - 1, by omega⟩
    exact br_t (by decide) h
  | succ n ih =>
    intro h12 ha hb h f hf
    obtain ⟨f, rfl⟩ : ∃ g, f = g + 1 := ⟨f - 1, by omega⟩
    rw [wX_rankOf_5]
    dsimp only
    refine br_f (nI_nle (by omega) (by omega)) ?_
    rw [nI_pred, nI_clamp (show n < 2 ^ 31 by omega), ha n (by omega)]
    refine ⟨vp_in_nI (by omega) (by omega), ?_⟩
    rw [yk_rk] at h
    refine pk_le (yk_ln w (T n)) l (fun c => ?_) (fun c => ?_) rfl rfl (hb n (by omega)) hl
    · rw [if_neg (by omega)] at h
      exact h
    · rw [if_pos c] at h
      refine nm_r (pk_m1 n) ?_
      exact ih (by omega) (fun k hk => ha k (by omega)) (fun k hk => hb k (by omega)) h f (by omega)

theorem yx_copy_35 {post : SX → Prop} {so ta ra oe la ot : Int32} {aw al az av tv tl nt : Nat → Int32} {k : Nat} (hk : k + 1 < 12) (h : post (so, ta, ra, oe, la, ot, aw, al, az, yk_cp (k + 1) 7 av, tv, tl, nt)) :
    ∀ d i, i + d = 7 → ∀ f, d < f → wX_copyFromRankBefore_35 post (nI (7 * (k + 1))) so ta ra oe la ot f (nI i) aw al az (yk_cp (k + 1) i av) tv tl nt := by
  intro d
  induction d with
  | zero =>
    intro i hi f hf
    obtain ⟨f, rfl⟩ : ∃ g, f = g + 1 := ⟨f - 1, by omega⟩
    have e : i = 7 := by omega
    subst e
    exact br_t (by decide) h
  | succ d ih =>
    intro i hi f hf
    obtain ⟨f, rfl⟩ : ∃ g, f = g + 1 := ⟨f - 1, by omega⟩
    rw [wX_copyFromRankBefore_35]
    dsimp only
    refine br_f (nI_ge (a := i) (b := 7) (by omega) (by omega)) ?_
    have e1 : nI (7 * (k + 1)) + nI i = nI (7 * (k + 1) + i) := nI_add _ _
    have e2 : nI (7 * (k + 1) + i) - 7 = nI (7 * (k + 1) + i - 7) := pk_sub (b := 7) (by omega)
    rw [e1, e2, nI_clamp (show 7 * (k + 1) + i - 7 < 2 ^ 31 by omega), nI_clamp (show 7 * (k + 1) + i < 2 ^ 31 by omega)]
    refine ⟨vp_in_nI (by omega) (by omega), vp_in_nI (by omega) (by omega), ?_⟩
    rw [yk_cp_r av (show 7 * (k + 1) + i - 7 < 7 * (k + 1) by omega), yk_cp_s]
    exact nm_e (nm_r (nI_1 i) (ih (i + 1) (by omega) f (by omega)))

theorem yx_copy {post : SX → Prop} {so ta ra oe la ot : Int32} {aw al az av tv tl nt : Nat → Int32} {k : Nat} (hk : k + 1 < 12) (h : post (so, ta, ra, oe, la, ot, aw, upd al (k + 1) (al k), upd az (k + 1) (az k), yk_cp (k + 1) 7 av, tv, tl, nt)) :
    wpX_copyFromRankBefore post (so, ta, ra, oe, la, ot, aw, al, az, av, tv, tl, nt) (nI (k + 1)) := by
  unfold wpX_copyFromRankBefore
  dsimp only
  rw [nI_pred, nI_clamp (show k < 2 ^ 31 by omega), nI_clamp (show k + 1 < 2 ^ 31 by omega)]
  have i1 : vp_in (nI k) 12 := vp_in_nI (by omega) (by omega)
  have i2 : vp_in (nI (k + 1)) 12 := vp_in_nI (by omega) (by omega)
  have e : nI (k + 1) * 7 = nI (7 * (k + 1)) := by rw [Nat.mul_comm 7]; exact pk_mul (k + 1) 7
  have h8 := yx_copy_35 (al := upd al (k + 1) (al k)) (az := upd az (k + 1) (az k)) hk h 7 0 rfl 8 (by omega)
  rw [yk_cp_0] at h8
  exact ⟨i1, i2, nm_e ⟨i1, i2, nm_e (nm_r e ⟨8, h8⟩)⟩⟩

theorem yx_place_34 {post : SX → Prop} {so ta ra oe la ot : Int32} {aw al az av tv tl nt : Nat → Int32} {r j : Nat} (hr : r < 12) (hj : j < 7) (hla : la = nI j) (h : post (so, ta, ra, oe, la, ot, aw, al, az, yk_pl r (j + 1) tv av, tv, tl, nt)) :
    ∀ d i, i + d = j + 1 → ∀ f, d < f → wX_placeTrail_34 post (nI (7 * r)) so ta ra oe la ot f (nI i) aw al az (yk_pl r i tv av) tv tl nt := by
  subst hla
  intro d
  induction d with
  | zero =>
    intro i hi f hf
    obtain ⟨f, rfl⟩ : ∃ g, f = g + 1 := ⟨f - 1, by omega⟩
    have e : i = j + 1 := by omega
    subst e
    exact br_t (nI_lt (by omega) (by omega)) h
  | succ d ih =>
    intro i hi f hf
    obtain ⟨f, rfl⟩ : ∃ g, f = g + 1 := ⟨f - 1, by omega⟩
    rw [wX_placeTrail_34]
    dsimp only
    refine br_f (nI_nlt (by omega) (by omega)) ?_
    have e1 : nI (7 * r) + nI i = nI (7 * r + i) := nI_add _ _
    rw [e1, nI_clamp (show i < 2 ^ 31 by omega), nI_clamp (show 7 * r + i < 2 ^ 31 by omega), yk_pl_s]
    exact ⟨vp_in_nI (by omega) (by omega), vp_in_nI (by omega) (by omega), nm_e (nm_r (nI_1 i) (ih (i + 1) (by omega) f (by omega)))⟩

theorem yx_place {post : SX → Prop} {so ta ra oe la ot : Int32} {aw al az av tv tl nt : Nat → Int32} {r j : Nat} (hr : r < 12) (hj : j < 7) (hla : la = nI j)
    (h : post (so, ta, ra, oe, la, ot, aw, upd al r (tl j), upd az r (nI (j + 1)), yk_pl r (j + 1) tv av, tv, tl, nt)) : wpX_placeTrail post (so, ta, ra, oe, la, ot, aw, al, az, av, tv, tl, nt) (nI r) := by
  have h8 := yx_place_34 (al := upd al r (tl j)) (az := upd az r (nI (j + 1))) hr hj hla h (j + 1) 0 (by omega) (j + 2) (by omega)
  rw [yk_pl_0] at h8
  subst hla
  unfold wpX_placeTrail
  dsimp only
  rw [nI_clamp (show j < 2 ^ 31 by omega), nI_clamp (show r < 2 ^ 31 by omega), nI_1]
  have i2 : vp_in (nI r) 12 := vp_in_nI (by omega) (by omega)
  have e : nI r * 7 = nI (7 * r) := by rw [Nat.mul_comm 7]; exact pk_mul r 7
  exact ⟨vp_in_nI hj (by omega), i2, nm_e ⟨i2, nm_e (nm_r e ⟨_, h8⟩)⟩⟩

theorem yx_note_60 {post : SX → Prop} {so ta ra oe la ot : Int32} {aw al az av tv tl nt : Nat → Int32} {r m j : Nat} (hr : r < 12) (hm : m ≤ 12) (hj : j < 7) (hla : la = nI j)
    (h : post (so, ta, ra, oe, la, ot, aw, upd (yk_s1 r m al) r (tl j), upd (yk_s1 r m az) r (nI (j + 1)), yk_pl r (j + 1) tv (yk_s7 r m av), tv, tl, nt)) :
    ∀ d c, c = r + d → c < m → ∀ f, d < f → wX_notePath_60 post (nI r) f (nI c) so ta ra oe la ot aw (yk_s1 c m al) (yk_s1 c m az) (yk_s7 c m av) tv tl nt := by
  intro d
  induction d with
  | zero =>
    intro c hc hcm f hf
    obtain ⟨f, rfl⟩ : ∃ g, f = g + 1 := ⟨f - 1, by omega⟩
    have e : c = r := by omega
    subst e
    rw [wX_notePath_60]
    dsimp only
    refine br_t (nI_le (by omega) (by omega)) ?_
    exact yx_place hr hj hla h
  | succ d ih =>
    intro c hc hcm f hf
    obtain ⟨f, rfl⟩ : ∃ g, f = g + 1 := ⟨f - 1, by omega⟩
    obtain ⟨c, rfl⟩ : ∃ g, c = g + 1 := ⟨c - 1, by omega⟩
    rw [wX_notePath_60]
    dsimp only
    refine br_f (nI_ge (by omega) (by omega)) ?_
    refine yx_copy (by omega) ?_
    dsimp only
    rw [yk_s1_r al (show c ≤ c + 1 by omega), yk_s1_r az (show c ≤ c + 1 by omega), yk_s1_s al (by omega), yk_s1_s az (by omega), yk_s7_s av (by omega)]
    exact nm_r (pk_m1 c) (ih c (by omega) (by omega) f (by omega))

/-- what a noted path leaves -/
theorem yx_noteE {so ta ra oe la ot : Int32} {aw al az av tv tl nt : Nat → Int32} {w : Nat → Nat} {A : Nat × (Nat → List Nat)} {p : List Nat} {j : Nat} (hj : j < 7) (hp : p.length = j + 1) (hla : la = nI j) (hra : ra = nI A.1) (h12 : A.1 ≤ 12)
    (htl : tl j = nI (yk_ln w p)) (hl : yk_ln w p < 2 ^ 31) (hT : yk_tb w A al az av) (hb : ∀ k, k < A.1 → yk_ln w (A.2 k) < 2 ^ 31) (h7 : ∀ k, k < A.1 → (A.2 k).length ≤ 7) (hs : yk_sk p tv) :
    ∃ al' az' av', yk_tb w (yk_ad w A p) al' az' av' ∧ ∀ post : SX → Prop, post (so, ta, nI (yk_ad w A p).1, oe &&& ot, la, ot, aw, al', az', av', tv, tl, nt) → wpX_notePath post (so, ta, ra, oe, la, ot, aw, al, az, av, tv, tl, nt) := by
  subst hla hra
  have hrn := yk_rk_le w A.2 (yk_ln w p) A.1
  have hn1 := yk_ad_1 w A p
  generalize hr : yk_rk w A.2 (yk_ln w p) A.1 = r at hrn
  by_cases c : r = 12
  · subst c
    refine ⟨al, az, av, yk_tb_stay hT h7 h12 hr.symm, fun post h1 => ?_⟩
    have e : (yk_ad w A p).1 = A.1 := by rw [hn1, if_neg (by omega)]
    rw [e] at h1
    unfold wpX_notePath
    dsimp only
    refine nm_e ⟨vp_in_nI hj (by omega), ?_⟩
    rw [nI_clamp (show j < 2 ^ 31 by omega), htl]
    unfold wpX_rankOf
    dsimp only
    refine ⟨A.1 + 1, yx_rankOf_5 (w := w) (T := A.2) hl A.1 h12 (fun k hk => (hT k hk).1) hb ?_ (A.1 + 1) (by omega)⟩
    rw [hr]
    exact br_t rfl h1
  · by_cases c2 : 12 ≤ A.1
    · refine ⟨_, _, _, yk_tb_put hT h7 (by omega) h12 r A.1 hr.symm (by rw [hn1]; split <;> omega) hs, fun post h1 => ?_⟩
      have e : (yk_ad w A p).1 = A.1 := by rw [hn1, if_neg (by omega)]
      rw [e, hp, ← htl] at h1
      obtain ⟨n, hn⟩ : ∃ n, A.1 = n + 1 := ⟨A.1 - 1, by omega⟩
      have h2 := yx_note_60 (r := r) (m := A.1) (j := j) (al := al) (az := az) (av := av) (by omega) (by omega) hj rfl h1 (n - r) n (by omega) (by omega) (n - r + 1) (by omega)
      rw [yk_s1_t al (by omega), yk_s1_t az (by omega), yk_s7_t av (by omega)] at h2
      unfold wpX_notePath
      dsimp only
      refine nm_e ⟨vp_in_nI hj (by omega), ?_⟩
      rw [nI_clamp (show j < 2 ^ 31 by omega), htl]
      unfold wpX_rankOf
      dsimp only
      refine ⟨A.1 + 1, yx_rankOf_5 (w := w) (T := A.2) hl A.1 h12 (fun k hk => (hT k hk).1) hb ?_ (A.1 + 1) (by omega)⟩
      rw [hr]
      refine br_f (fun z => c ((nI_eq (b := 12) (by omega) (by omega)).mp z)) (br_t (nI_le (a := 12) c2 (by omega)) ?_)
      exact nm_r (show nI A.1 - 1 = nI n by rw [hn]; exact nI_pred n) ⟨_, h2⟩
    · refine ⟨_, _, _, yk_tb_put hT h7 (by omega) h12 r (A.1 + 1) hr.symm (by rw [hn1]; split <;> omega) hs, fun post h1 => ?_⟩
      have e : (yk_ad w A p).1 = A.1 + 1 := by rw [hn1, if_pos (by omega)]
      rw [e, hp, ← htl] at h1
      have h2 := yx_note_60 (r := r) (m := A.1 + 1) (j := j) (al := al) (az := az) (av := av) (by omega) (by omega) hj rfl h1 (A.1 - r) A.1 (by omega) (by omega) (A.1 - r + 1) (by omega)
      rw [yk_s1_t al (by omega), yk_s1_t az (by omega), yk_s7_t av (by omega)] at h2
      unfold wpX_notePath
      dsimp only
      refine nm_e ⟨vp_in_nI hj (by omega), ?_⟩
      rw [nI_clamp (show j < 2 ^ 31 by omega), htl]
      unfold wpX_rankOf
      dsimp only
      refine ⟨A.1 + 1, yx_rankOf_5 (w := w) (T := A.2) hl A.1 h12 (fun k hk => (hT k hk).1) hb ?_ (A.1 + 1) (by omega)⟩
      rw [hr]
      refine br_f (fun z => c ((nI_eq (b := 12) (by omega) (by omega)).mp z)) (br_f (nI_ge (b := 12) (by omega) (by omega)) ?_)
      exact nm_r (nI_1 A.1) (nm_r (nI_pred A.1) ⟨_, h2⟩)
end
section
/-! The component's walk keeps the four rules. -/
def yx_J (w : Nat → Nat) (a : Nat → Int32) (s t : Nat) (p : List Nat) (K : List (List Nat)) (u : SX) : Prop := match u with
  | (so, ta, ra, oe, la, ot, aw, al, az, av, tv, tl, _) => so = nI s ∧ ta = nI t ∧ ra = nI (yk_ac w K).1 ∧ oe = yk_ms K ∧ la = nI p.length - 1 ∧ ot = yk_mk p ∧ aw = a ∧ yk_tb w (yk_ac w K) al az av ∧ yk_sk p tv ∧ yk_tl w p tl ∧ ∀ q, q ∈ K → q.length ≤ 7
def yx_nx (u : SX) : Nat → Int32
  | 0 => 0
  | j + 1 => u.2.2.2.2.2.2.2.2.2.2.2.2 j
def yx_W (post : SX → Prop) (fb : Int32) (n k : Nat) (u : SX) : Prop := match u with
  | (so, ta, ra, oe, la, ot, aw, al, az, av, tv, tl, nt) => wX_rankPaths_32 post fb n (nI k) so ta ra oe la ot aw al az av tv tl nt
def yk_ok (w : Nat → Nat) (fb : Nat) (x y : Nat) : Bool := decide (w (7 * x + y) ≠ 0) && decide (7 * x + y ≠ fb)
theorem yk_nc {x : Nat} {r : List Nat} (h : yk_vt (x :: r)) : r.contains x = false := by
  cases hc : r.contains x with
  | false => rfl
  | true => exact absurd (List.contains_iff_mem.mp hc) (List.nodup_cons.mp h.1).1
theorem yk_vt_len {p : List Nat} (h : yk_vt p) : p.length ≤ 7 := by
  have := yk_cn_all h
  omega

theorem yx_r1 (post : SX → Prop) (w : Nat → Nat) (a : Nat → Int32) (s t : Nat) (fI : Int32) : yk_R1 (yx_W post fI) (yx_J w a s t) yx_nx 1000000 t := by
  intro x r K u k hv hJ hn hx hk
  obtain ⟨so, ta, ra, oe, la, ot, aw, al, az, av, tv, tl, nt⟩ := u
  obtain ⟨h1, h2, h3, h4, h5, h6, h7, h8, h9, h10, h11⟩ := hJ
  have hlen := yk_vt_len hv
  rw [List.length_cons] at hlen
  have hla : la = nI r.length := by rw [h5, List.length_cons, nI_pred]
  subst hla
  have hn' : nt r.length = nI 7 := hn
  refine ⟨(so, ta, ra, oe, nI r.length - 1, yk_mk r, aw, al, az, av, tv, tl, nt), ⟨h1, h2, h3, h4, rfl, rfl, h7, h8, h9.2, h10.2, h11⟩, ?_, ?_⟩
  · intro i _
    cases i <;> rfl
  · intro n hW
    show wX_rankPaths_32 post fI (n + 1) (nI k) so ta ra oe (nI r.length) ot aw al az av tv tl nt
    rw [wX_rankPaths_32]
    dsimp only
    refine br_f (nI_ge (a := k) (b := 1000000) (by omega) (by omega)) (br_f (nI_pos (by omega)) ?_)
    rw [nI_clamp (show r.length < 2 ^ 31 by omega), hn']
    refine ⟨vp_in_nI (by omega) (by omega), nm_e (br_t rfl ?_)⟩
    refine yx_stepBack (by omega) rfl h9.1 ?_
    dsimp only
    rw [h6, yk_mk_pop (fun y hy => hv.2 y (List.mem_cons_of_mem x hy)) (hv.2 x (List.mem_cons_self ..)) (yk_nc hv)]
    exact nm_r (nI_1 k) hW

/-- the step up to the branch on the vertex's arc -/
theorem yx_try0 {post : SX → Prop} {so ta ra oe la ot : Int32} {aw al az av tv tl nt : Nat → Int32} {x v : Nat} {r : List Nat} {fI : Int32} (hv : yk_vt (x :: r)) (h7 : v < 7) (hla : la = nI r.length) (hot : ot = yk_mk (x :: r)) (htv : tv r.length = nI x)
    (h0 : (x :: r).contains v = false → wX_tryVertex_31 post (nI v) fI (nI (7 * x + v)) 0 so ta ra oe la ot aw al az av tv tl nt)
    (h1 : (x :: r).contains v = true → post (so, ta, ra, oe, la, ot, aw, al, az, av, tv, tl, nt)) : wpX_tryVertex post (so, ta, ra, oe, la, ot, aw, al, az, av, tv, tl, nt) (nI v) fI := by
  have hlen := yk_vt_len hv
  rw [List.length_cons] at hlen
  subst hla hot
  unfold wpX_tryVertex
  dsimp only
  have e : nI x * 7 + nI v = nI (7 * x + v) := by
    rw [show nI x * (7 : Int32) = nI (x * 7) from pk_mul x 7, nI_add, Nat.mul_comm]
  rw [nI_clamp (show r.length < 2 ^ 31 by omega), htv, e]
  refine ⟨vp_in_nI (by omega) (by omega), nm_e ?_⟩
  have hin := yk_mk_in (x :: r) hv.2 v h7
  cases hc : (x :: r).contains v with
  | false => exact br_t (hin.mpr hc) (h0 hc)
  | true =>
    refine br_f (fun z => ?_) ?_
    · have := hin.mp z
      rw [hc] at this
      exact Bool.noConfusion this
    · exact br_f (by decide) (h1 hc)

theorem yx_r2 (post : SX → Prop) {w : Nat → Nat} {a : Nat → Int32} (s t : Nat) {fI : Int32} {fb : Nat} (ha : ∀ c, a c = nI (w c)) (hw : ∀ c, w c ≤ 50) (hfb : ∀ c, c < 49 → (nI c = fI ↔ c = fb)) :
    yk_R2 (yx_W post fI) (yx_J w a s t) yx_nx 1000000 (yk_ok w fb) t := by
  intro x r K u k v hv hJ h7' hn hx hbl hk
  obtain ⟨so, ta, ra, oe, la, ot, aw, al, az, av, tv, tl, nt⟩ := u
  have hJ' := hJ
  obtain ⟨h1, h2, h3, h4, h5, h6, h7, h8, h9, h10, h11⟩ := hJ'
  have hlen := yk_vt_len hv
  rw [List.length_cons] at hlen
  have hx7 := hv.2 x (List.mem_cons_self ..)
  have hla : la = nI r.length := by rw [h5, List.length_cons, nI_pred]
  have hn' : nt r.length = nI v := hn
  refine ⟨(so, ta, ra, oe, la, ot, aw, al, az, av, tv, tl, upd nt r.length (nI (v + 1))), hJ, pk_us, ?_, ?_⟩
  · intro i hi
    cases i with
    | zero => rfl
    | succ i => exact pk_un (by omega)
  · intro n hW
    subst hla
    show wX_rankPaths_32 post fI (n + 1) (nI k) so ta ra oe (nI r.length) ot aw al az av tv tl nt
    rw [wX_rankPaths_32]
    dsimp only
    refine br_f (nI_ge (a := k) (b := 1000000) (by omega) (by omega)) (br_f (nI_pos (by omega)) ?_)
    rw [nI_clamp (show r.length < 2 ^ 31 by omega), hn']
    have hin : vp_in (nI r.length) 7 := vp_in_nI (by omega) (by omega)
    refine ⟨hin, nm_e (br_f (fun z => ?_) ⟨hin, nm_r (by rw [nI_1]) ?_⟩)⟩
    · have := (nI_eq (a := v) (b := 7) (by omega) (by omega)).mp z
      omega
    · refine yx_try0 hv h7' rfl h6 h9.1 (fun hc => ?_) (fun _ => ?_)
      · have hok : yk_ok w fb x v = false := by
          have h := hbl
          unfold yk_bl at h
          rw [hc, Bool.false_or] at h
          cases ho : yk_ok w fb x v with
          | false => rfl
          | true => rw [show (x :: r).headD 0 = x from rfl, ho] at h; exact Bool.noConfusion h
        unfold wX_tryVertex_31
        subst h7
        rw [nI_clamp (show 7 * x + v < 2 ^ 31 by omega), ha]
        have hw1 := hw (7 * x + v)
        refine br_t rfl ⟨vp_in_nI (by omega) (by omega), ?_⟩
        refine pk_eq (w (7 * x + v)) 0 (fun _ => ?_) (fun c => br_t ?_ ?_)
        · dsimp only
          exact nm_r (nI_1 k) hW
        · refine (hfb _ (by omega)).mpr ?_
          unfold yk_ok at hok
          rw [decide_eq_true c, Bool.true_and] at hok
          exact Decidable.of_not_not (of_decide_eq_false hok)
        · dsimp only
          exact nm_r (nI_1 k) hW
      · dsimp only
        exact nm_r (nI_1 k) hW

theorem yk_bl_ok {w : Nat → Nat} {fb x v : Nat} {r : List Nat} (h : yk_bl (yk_ok w fb) (x :: r) v = false) : w (7 * x + v) ≠ 0 ∧ 7 * x + v ≠ fb := by
  have h1 := (Bool.or_eq_false_iff.mp h).2
  have h2 : yk_ok w fb x v = true := by
    cases ho : yk_ok w fb x v with
    | true => rfl
    | false => rw [show (x :: r).headD 0 = x from rfl, ho] at h1; exact Bool.noConfusion h1
  unfold yk_ok at h2
  rw [Bool.and_eq_true] at h2
  exact ⟨of_decide_eq_true h2.1, of_decide_eq_true h2.2⟩

theorem yx_r3 (post : SX → Prop) {w : Nat → Nat} {a : Nat → Int32} (s t : Nat) (ht : t < 7) {fI : Int32} {fb : Nat} (ha : ∀ c, a c = nI (w c)) (hw : ∀ c, w c ≤ 50) (hfb : ∀ c, c < 49 → (nI c = fI ↔ c = fb)) :
    yk_R3 (yx_W post fI) (yx_J w a s t) yx_nx 1000000 (yk_ok w fb) t := by
  intro x r K u k v hvv hJ h7' hn hx hbl hvt hk
  obtain ⟨so, ta, ra, oe, la, ot, aw, al, az, av, tv, tl, nt⟩ := u
  obtain ⟨h1, h2, h3, h4, h5, h6, h7, h8, h9, h10, h11⟩ := hJ
  have hlen := yk_vt_len hvv
  rw [List.length_cons, List.length_cons] at hlen
  have hv : yk_vt (x :: r) := ⟨(List.nodup_cons.mp hvv.1).2, fun y hy => hvv.2 y (List.mem_cons_of_mem v hy)⟩
  have hx7 := hv.2 x (List.mem_cons_self ..)
  have hla : la = nI r.length := by rw [h5, List.length_cons, nI_pred]
  have hn' : nt r.length = nI v := hn
  obtain ⟨hok1, hok2⟩ := yk_bl_ok hbl
  refine ⟨(so, ta, ra, oe, nI (r.length + 1), yk_mk (v :: x :: r), aw, al, az, av, upd tv (r.length + 1) (nI v), upd tl (r.length + 1) (nI (yk_ln w (v :: x :: r))), upd (upd nt r.length (nI (v + 1))) (r.length + 1) 0),
    ⟨h1, h2, h3, h4, ?_, rfl, h7, h8, ⟨pk_us, yk_sk_ag (fun i hi => ?_) h9⟩, ⟨pk_us, yk_tl_ag (fun i hi => ?_) h10⟩, h11⟩, pk_us, ?_, ?_, ?_⟩
  · rw [List.length_cons, List.length_cons, nI_pred]
  · rw [List.length_cons] at hi
    exact pk_un (by omega)
  · rw [List.length_cons] at hi
    exact pk_un (by omega)
  · exact (pk_un (by omega)).trans pk_us
  · intro i hi
    cases i with
    | zero => rfl
    | succ i => exact (pk_un (by omega)).trans (pk_un (by omega))
  · intro n hW
    subst hla
    show wX_rankPaths_32 post fI (n + 1) (nI k) so ta ra oe (nI r.length) ot aw al az av tv tl nt
    rw [wX_rankPaths_32]
    dsimp only
    refine br_f (nI_ge (a := k) (b := 1000000) (by omega) (by omega)) (br_f (nI_pos (by omega)) ?_)
    rw [nI_clamp (show r.length < 2 ^ 31 by omega), hn']
    have hin : vp_in (nI r.length) 7 := vp_in_nI (by omega) (by omega)
    have hin2 : vp_in (nI (7 * x + v)) 49 := vp_in_nI (by omega) (by omega)
    have hw1 := hw (7 * x + v)
    refine ⟨hin, nm_e (br_f (fun z => ?_) ⟨hin, nm_r (by rw [nI_1]) ?_⟩)⟩
    · have := (nI_eq (a := v) (b := 7) (by omega) (by omega)).mp z
      omega
    · refine yx_try0 hv h7' rfl h6 h9.1 (fun _ => ?_) (fun hc => ?_)
      · unfold wX_tryVertex_31
        rw [nI_clamp (show 7 * x + v < 2 ^ 31 by omega), h7, ha, nI_clamp (show r.length < 2 ^ 31 by omega), show tl r.length = nI (yk_ln w (x :: r)) from h10.1, nI_add]
        refine br_t rfl ⟨hin2, br_f (nI_ne0 (by omega) (by omega)) (br_f (fun z => hok2 ((hfb _ (by omega)).mp z)) ⟨hin, hin2, ?_⟩)⟩
        refine yx_stepTo (m := r.length + 1) (by omega) (nI_1 _) ?_
        dsimp only
        refine br_f (fun z => ?_) ?_
        · rw [h2] at z
          exact hvt ((nI_eq (by omega) (by omega)).mp z)
        · rw [h6, ← h7]
          exact nm_r (nI_1 k) hW
      · rw [yk_bl_c hbl] at hc
        exact Bool.noConfusion hc

theorem yx_r4 (post : SX → Prop) {w : Nat → Nat} {a : Nat → Int32} (s t : Nat) {fI : Int32} {fb : Nat} (ha : ∀ c, a c = nI (w c)) (hw : ∀ c, w c ≤ 50) (hfb : ∀ c, c < 49 → (nI c = fI ↔ c = fb)) :
    yk_R4 (yx_W post fI) (yx_J w a s t) yx_nx 1000000 (yk_ok w fb) t := by
  intro x r K u k v hvv hJ h7' hn hx hbl hvt hk _
  obtain ⟨so, ta, ra, oe, la, ot, aw, al, az, av, tv, tl, nt⟩ := u
  obtain ⟨h1, h2, h3, h4, h5, h6, h7, h8, h9, h10, h11⟩ := hJ
  have hlen := yk_vt_len hvv
  rw [List.length_cons, List.length_cons] at hlen
  have hv : yk_vt (x :: r) := ⟨(List.nodup_cons.mp hvv.1).2, fun y hy => hvv.2 y (List.mem_cons_of_mem v hy)⟩
  have hx7 := hv.2 x (List.mem_cons_self ..)
  have hla : la = nI r.length := by rw [h5, List.length_cons, nI_pred]
  have hn' : nt r.length = nI v := hn
  obtain ⟨hok1, hok2⟩ := yk_bl_ok hbl
  have hiv := yk_iv_ac w K
  have hlb : ∀ q : List Nat, q.length ≤ 7 → yk_ln w q < 2 ^ 31 := by
    intro q hq
    have := yk_ln_le hw q
    omega
  have hst : yk_sk (v :: x :: r) (upd tv (r.length + 1) (nI v)) := by
    refine ⟨pk_us, yk_sk_ag (fun i hi => ?_) h9⟩
    rw [List.length_cons] at hi
    exact pk_un (by omega)
  -- the state that the note leaves is chosen by the walk itself
  have key : ∃ al' az' av', yk_tb w (yk_ac w (K ++ [v :: x :: r])) al' az' av' ∧ ∀ Q : SX → Prop,
      Q (so, ta, nI (yk_ac w (K ++ [v :: x :: r])).1, yk_ms (K ++ [v :: x :: r]), nI (r.length + 1), yk_mk (v :: x :: r), aw, al', az', av', upd tv (r.length + 1) (nI v), upd tl (r.length + 1) (nI (yk_ln w (v :: x :: r))), upd (upd nt r.length (nI (v + 1))) (r.length + 1) 0) →
      wpX_notePath Q (so, ta, ra, oe, nI (r.length + 1), yk_mk (v :: x :: r), aw, al, az, av, upd tv (r.length + 1) (nI v), upd tl (r.length + 1) (nI (yk_ln w (v :: x :: r))), upd (upd nt r.length (nI (v + 1))) (r.length + 1) 0) := by
    rw [yk_ac_s, yk_ms_s]
    subst h3 h4
    obtain ⟨al', az', av', hT, hQ⟩ := yx_noteE (so := so) (ta := ta) (oe := yk_ms K) (ot := yk_mk (v :: x :: r)) (aw := aw) (nt := upd (upd nt r.length (nI (v + 1))) (r.length + 1) 0) (w := w) (A := yk_ac w K) (p := v :: x :: r) (j := r.length + 1)
      (tl := upd tl (r.length + 1) (nI (yk_ln w (v :: x :: r)))) (by omega) rfl rfl rfl hiv.1 pk_us (hlb _ (by rw [List.length_cons, List.length_cons]; omega)) h8
      (fun k hk => hlb _ (h11 _ (hiv.2.1 k hk))) (fun k hk => h11 _ (hiv.2.1 k hk)) hst
    exact ⟨al', az', av', hT, hQ⟩
  obtain ⟨al', az', av', hT', hQ⟩ := key
  refine ⟨(so, ta, nI (yk_ac w (K ++ [v :: x :: r])).1, yk_ms (K ++ [v :: x :: r]), nI (r.length + 1) - 1, yk_mk (x :: r), aw, al', az', av', upd tv (r.length + 1) (nI v), upd tl (r.length + 1) (nI (yk_ln w (v :: x :: r))), upd (upd nt r.length (nI (v + 1))) (r.length + 1) 0), 1, by omega,
    ⟨h1, h2, rfl, rfl, rfl, rfl, h7, hT', hst.2, yk_tl_ag (fun i hi => ?_) h10, ?_⟩, ?_, ?_, ?_⟩
  · rw [List.length_cons] at hi
    exact pk_un (by omega)
  · intro q hq
    rcases List.mem_append.mp hq with hq | hq
    · exact h11 q hq
    · rw [List.mem_singleton.mp hq, List.length_cons, List.length_cons]
      omega
  · exact (pk_un (by omega)).trans pk_us
  · intro i hi
    cases i with
    | zero => rfl
    | succ i => exact (pk_un (by omega)).trans (pk_un (by omega))
  · intro n hW
    subst hla
    show wX_rankPaths_32 post fI (n + 1) (nI k) so ta ra oe (nI r.length) ot aw al az av tv tl nt
    rw [wX_rankPaths_32]
    dsimp only
    refine br_f (nI_ge (a := k) (b := 1000000) (by omega) (by omega)) (br_f (nI_pos (by omega)) ?_)
    rw [nI_clamp (show r.length < 2 ^ 31 by omega), hn']
    have hin : vp_in (nI r.length) 7 := vp_in_nI (by omega) (by omega)
    have hin2 : vp_in (nI (7 * x + v)) 49 := vp_in_nI (by omega) (by omega)
    have hw1 := hw (7 * x + v)
    refine ⟨hin, nm_e (br_f (fun z => ?_) ⟨hin, nm_r (by rw [nI_1]) ?_⟩)⟩
    · have := (nI_eq (a := v) (b := 7) (by omega) (by omega)).mp z
      omega
    · refine yx_try0 hv h7' rfl h6 h9.1 (fun _ => ?_) (fun hc => ?_)
      · unfold wX_tryVertex_31
        rw [nI_clamp (show 7 * x + v < 2 ^ 31 by omega), h7, ha, nI_clamp (show r.length < 2 ^ 31 by omega), show tl r.length = nI (yk_ln w (x :: r)) from h10.1, nI_add]
        refine br_t rfl ⟨hin2, br_f (nI_ne0 (by omega) (by omega)) (br_f (fun z => hok2 ((hfb _ (by omega)).mp z)) ⟨hin, hin2, ?_⟩)⟩
        refine yx_stepTo (m := r.length + 1) (by omega) (nI_1 _) ?_
        dsimp only
        refine br_t (by rw [h2, hvt]) ?_
        rw [h6, ← h7]
        refine hQ _ ?_
        dsimp only
        refine yx_stepBack (m := r.length + 1) (v := v) (by omega) rfl pk_us ?_
        dsimp only
        rw [yk_mk_pop hv.2 h7' (yk_nc hvv)]
        exact nm_r (nI_1 k) hW
      · rw [yk_bl_c hbl] at hc
        exact Bool.noConfusion hc
end
section
/-! The reference's small methods. -/
theorem yy_onPath_2 {post : Int32 → Prop} {so ta de ke sw ev : Int32} {aa pa tr yl ys yv : Nat → Int32} {x m : Nat} (hx : x < 2 ^ 31) (hm : m ≤ 7) (hd : de = nI m) :
    ∀ l i, yk_fw l pa i → (∀ y, y ∈ l → y < 7) → i + l.length = m → post (if l.contains x = true then 1 else 0) → ∀ f, l.length < f → wY_onPath_2 post (nI x) so ta de ke sw ev aa pa tr yl ys yv f (nI i) := by
  subst hd
  intro l
  induction l with
  | nil =>
    intro i _ _ hi h f hf
    obtain ⟨f, rfl⟩ : ∃ g, f = g + 1 := ⟨f - 1, by omega⟩
    rw [List.length_nil] at hi
    exact br_t (nI_le (by omega) (by omega)) h
  | cons y l ih =>
    intro i hw hb hi h f hf
    rw [List.length_cons] at hi hf
    obtain ⟨f, rfl⟩ : ∃ g, f = g + 1 := ⟨f - 1, by omega⟩
    rw [wY_onPath_2]
    dsimp only
    refine br_f (nI_ge (by omega) (by omega)) ?_
    rw [nI_clamp (show i < 2 ^ 31 by omega), hw.1]
    refine ⟨vp_in_nI (by omega) (by omega), ?_⟩
    have hy := hb y (List.mem_cons_self ..)
    refine pk_eq y x (fun c => ?_) (fun c => ?_)
    · rw [if_pos (by rw [List.contains_cons, c]; simp)] at h
      exact h
    · have e : (y :: l).contains x = l.contains x := by
        rw [List.contains_cons, beq_eq_false_iff_ne.mpr (fun e => c e.symm), Bool.false_or]
      rw [e] at h
      exact nm_r (nI_1 i) (ih (i + 1) hw.2 (fun z hz => hb z (List.mem_cons_of_mem y hz)) (by omega) h f (by omega))

theorem yy_onPath {post : Int32 → Prop} {so ta de ke sw ev : Int32} {aa pa tr yl ys yv : Nat → Int32} {x : Nat} {p : List Nat} (hx : x < 2 ^ 31) (hs : yk_sk p pa) (h7 : ∀ y, y ∈ p → y < 7) (hl : p.length ≤ 7) (hd : de = nI p.length)
    (h : post (if p.contains x = true then 1 else 0)) : wpY_onPath post (so, ta, de, ke, sw, ev, aa, pa, tr, yl, ys, yv) (nI x) := by
  rw [← yk_cr] at h
  exact ⟨p.reverse.length + 1, yy_onPath_2 hx hl hd p.reverse 0 (yk_fw_sk hs) (fun y hy => h7 y (List.mem_reverse.mp hy)) (by rw [List.length_reverse]; omega) h _ (by omega)⟩

theorem yy_7 (a b : Nat) : 7 * nI a + nI b = nI (7 * a + b) := by
  rw [show (7 : Int32) * nI a = nI (7 * a) from pk_mul 7 a, nI_add]

theorem yy_len_4 {post : Int32 → Prop} {so ta de ke sw ev : Int32} {aa pa tr yl ys yv : Nat → Int32} {w : Nat → Nat} {m : Nat} (hw : ∀ c, aa c = nI (w c)) (hm : m ≤ 7) (hd : de = nI m) :
    ∀ l a i sum, yk_fw (a :: l) pa i → (∀ y, y ∈ a :: l → y < 7) → i + 1 + l.length = m → post (nI (sum + yk_lf w a l)) → ∀ f, l.length < f → wY_lengthOfPath_4 post so ta de ke sw ev aa pa tr yl ys yv f (nI sum) (nI (i + 1)) := by
  subst hd
  intro l
  induction l with
  | nil =>
    intro a i sum _ _ hi h f hf
    obtain ⟨f, rfl⟩ : ∃ g, f = g + 1 := ⟨f - 1, by omega⟩
    rw [List.length_nil] at hi
    exact br_t (nI_le (by omega) (by omega)) h
  | cons b l ih =>
    intro a i sum hf1 hb hi h f hf
    rw [List.length_cons] at hi hf
    obtain ⟨f, rfl⟩ : ∃ g, f = g + 1 := ⟨f - 1, by omega⟩
    have ha := hb a (List.mem_cons_self ..)
    have hb' := hb b (List.mem_cons_of_mem a (List.mem_cons_self ..))
    rw [wY_lengthOfPath_4]
    dsimp only
    refine br_f (nI_ge (by omega) (by omega)) ?_
    rw [nI_pred, nI_clamp (show i < 2 ^ 31 by omega), nI_clamp (show i + 1 < 2 ^ 31 by omega), hf1.1, hf1.2.1, yy_7, nI_clamp (show 7 * a + b < 2 ^ 31 by omega), hw]
    refine ⟨vp_in_nI (by omega) (by omega), vp_in_nI (by omega) (by omega), vp_in_nI (by omega) (by omega), ?_⟩
    rw [yk_lf, ← Nat.add_assoc] at h
    exact nm_r (nI_add _ _) (nm_r (nI_1 (i + 1)) (ih b (i + 1) _ hf1.2 (fun y hy => hb y (List.mem_cons_of_mem a hy)) (by omega) h f (by omega)))

theorem yy_len {post : Int32 → Prop} {so ta de ke sw ev : Int32} {aa pa tr yl ys yv : Nat → Int32} {w : Nat → Nat} {p : List Nat} (hw : ∀ c, aa c = nI (w c)) (hs : yk_sk p pa) (hp : p ≠ []) (h7 : ∀ y, y ∈ p → y < 7) (hl : p.length ≤ 7) (hd : de = nI p.length)
    (h : post (nI (yk_ln w p))) : wpY_lengthOfPath post (so, ta, de, ke, sw, ev, aa, pa, tr, yl, ys, yv) := by
  have hf := yk_fw_sk hs
  rw [← yk_lg_ln] at h
  have hlen : p.reverse.length = p.length := List.length_reverse
  have h7' : ∀ y, y ∈ p.reverse → y < 7 := fun y hy => h7 y (List.mem_reverse.mp hy)
  cases he : p.reverse with
  | nil => exact absurd (List.reverse_eq_nil_iff.mp he) hp
  | cons a l =>
    rw [he] at hf h hlen h7'
    rw [List.length_cons] at hlen
    have h2 : post (nI (0 + yk_lf w a l)) := by rw [Nat.zero_add]; exact h
    exact ⟨l.length + 1, yy_len_4 hw hl hd l a 0 0 hf h7' (by omega) h2 _ (by omega)⟩

theorem yy_pp_2 {post : Int32 → Prop} {so ta de ke sw ev : Int32} {aa pa tr yl ys yv : Nat → Int32} {m : Nat} {u v : Int32} (hm : m ≤ 7) (hd : de = nI m) :
    ∀ l a i, yk_fw (a :: l) pa i → i + 1 + l.length = m → post (if yk_pf u v a l = true then 1 else 0) → ∀ f, l.length < f → wY_pathPasses_2 post u v so ta de ke sw ev aa pa tr yl ys yv f (nI (i + 1)) := by
  subst hd
  intro l
  induction l with
  | nil =>
    intro a i _ hi h f hf
    obtain ⟨f, rfl⟩ : ∃ g, f = g + 1 := ⟨f - 1, by omega⟩
    rw [List.length_nil] at hi
    exact br_t (nI_le (by omega) (by omega)) h
  | cons b l ih =>
    intro a i hf1 hi h f hf
    rw [List.length_cons] at hi hf
    obtain ⟨f, rfl⟩ : ∃ g, f = g + 1 := ⟨f - 1, by omega⟩
    have hn : (yk_pf u v a (b :: l) = yk_pf u v b l) → wY_pathPasses_2 post u v so ta (nI m) ke sw ev aa pa tr yl ys yv f (nI (i + 1 + 1)) := by
      intro e
      rw [e] at h
      exact ih b (i + 1) hf1.2 (by omega) h f (by omega)
    rw [wY_pathPasses_2]
    dsimp only
    refine br_f (nI_ge (by omega) (by omega)) ?_
    rw [nI_pred, nI_clamp (show i < 2 ^ 31 by omega), nI_clamp (show i + 1 < 2 ^ 31 by omega), hf1.1, hf1.2.1]
    refine ⟨vp_in_nI (by omega) (by omega), br_c (fun c => ⟨vp_in_nI (by omega) (by omega), br_c (fun c2 => ?_) (fun c2 => nm_r (nI_1 (i + 1)) (hn ?_))⟩) (fun c => nm_r (nI_1 (i + 1)) (hn ?_))⟩
    · rw [if_pos (by rw [yk_pf, decide_eq_true c, decide_eq_true c2]; rfl)] at h
      exact h
    · rw [yk_pf, decide_eq_false c2, Bool.and_false, Bool.false_or]
    · rw [yk_pf, decide_eq_false c, Bool.false_and, Bool.false_or]

theorem yy_pp {post : Int32 → Prop} {so ta de ke sw ev : Int32} {aa pa tr yl ys yv : Nat → Int32} {u v : Int32} {p : List Nat} (hs : yk_sk p pa) (hp : p ≠ []) (hl : p.length ≤ 7) (hd : de = nI p.length)
    (h : post (if yk_ps u v p = true then 1 else 0)) : wpY_pathPasses post (so, ta, de, ke, sw, ev, aa, pa, tr, yl, ys, yv) u v := by
  have hf := yk_fw_sk hs
  rw [← yk_pg_ps] at h
  have hlen : p.reverse.length = p.length := List.length_reverse
  cases he : p.reverse with
  | nil => exact absurd (List.reverse_eq_nil_iff.mp he) hp
  | cons a l =>
    rw [he] at hf h hlen
    rw [List.length_cons] at hlen
    exact ⟨l.length + 1, yy_pp_2 hl hd l a 0 hf (by omega) h _ (by omega)⟩

theorem yy_cb_28 {post : Int32 → Prop} {so ta de ke sw ev : Int32} {aa pa tr yl ys yv : Nat → Int32} {k m z : Nat} (hk : k < 13) (hm : m ≤ 7) (hz : z < 2 ^ 31) (hd : de = nI m) (hy : ys k = nI z) (h : post 0) :
    ∀ lp lq i, yk_fw lp pa i → yk_fw lq (fun i => yv (7 * k + i)) i → yk_lb lq lp → i + lp.length = m → i + lq.length = z → (∀ y, y ∈ lp → y < 7) → (∀ y, y ∈ lq → y < 7) →
      ∀ f, lp.length < f → wY_comesBefore_28 post (nI k) so ta de ke sw ev aa pa tr yl ys yv f (nI i) := by
  subst hd
  intro lp
  induction lp with
  | nil =>
    intro lq i _ _ _ hi _ _ _ f hf
    obtain ⟨f, rfl⟩ : ∃ g, f = g + 1 := ⟨f - 1, by omega⟩
    rw [List.length_nil] at hi
    exact br_c (fun _ => h) (fun _ => br_t (nI_le (by omega) (by omega)) h)
  | cons a lp ih =>
    intro lq i hp hq hlb hi hj h7 h7q f hf
    rw [List.length_cons] at hi hf
    obtain ⟨f, rfl⟩ : ∃ g, f = g + 1 := ⟨f - 1, by omega⟩
    rw [wY_comesBefore_28]
    dsimp only
    rw [nI_clamp (show k < 2 ^ 31 by omega), hy, nI_clamp (show i < 2 ^ 31 by omega), yy_7, nI_clamp (show 7 * k + i < 2 ^ 31 by omega)]
    refine br_f (nI_ge (a := i) (b := 7) (by omega) (by omega)) (br_f (nI_ge (by omega) (by omega)) ⟨vp_in_nI hk (by omega), ?_⟩)
    have i1 : vp_in (nI i) 7 := vp_in_nI (by omega) (by omega)
    have i2 : vp_in (nI (7 * k + i)) 91 := vp_in_nI (by omega) (by omega)
    cases lq with
    | nil =>
      rw [List.length_nil] at hj
      exact br_t (nI_le (by omega) (by omega)) h
    | cons b lq =>
      rw [List.length_cons] at hj
      refine br_f (nI_ge (by omega) (by omega)) ⟨i1, i2, ?_⟩
      have ha := h7 a (List.mem_cons_self ..)
      have hb := h7q b (List.mem_cons_self ..)
      have hq1 : yv (7 * k + i) = nI b := hq.1
      rw [hp.1, hq1]
      refine pk_eq a b (fun c => ?_) (fun c => ?_)
      · have hlb2 : yk_lb lq lp := by
          rcases hlb with c2 | c2
          · omega
          · exact c2.2
        exact nm_r (nI_1 i) (ih lq (i + 1) hp.2 hq.2 hlb2 (by omega) (by omega) (fun y hy => h7 y (List.mem_cons_of_mem a hy)) (fun y hy => h7q y (List.mem_cons_of_mem b hy)) f (by omega))
      · have hlt : b < a := by
          rcases hlb with c2 | c2
          · exact c2
          · exact absurd c2.1.symm c
        exact ⟨i1, i2, br_t (nI_le (by omega) (by omega)) h⟩

theorem yy_cb {post : Int32 → Prop} {so ta de ke sw ev : Int32} {aa pa tr yl ys yv : Nat → Int32} {w : Nat → Nat} {k l : Nat} {p q : List Nat} (hk : k < 13) (hl : l < 2 ^ 31) (hq : yk_ln w q < 2 ^ 31) (hy : yl k = nI (yk_ln w q)) (hz : ys k = nI q.length)
    (hsq : yk_sk q (fun i => yv (7 * k + i))) (hsp : yk_sk p pa) (hp7 : p.length ≤ 7) (hq7 : q.length ≤ 7) (hd : de = nI p.length) (hp : ∀ y, y ∈ p → y < 7) (hqb : ∀ y, y ∈ q → y < 7)
    (hlb : yk_lb q.reverse p.reverse) (h : post (if l < yk_ln w q then 1 else 0)) : wpY_comesBefore post (so, ta, de, ke, sw, ev, aa, pa, tr, yl, ys, yv) (nI l) (nI k) := by
  unfold wpY_comesBefore
  dsimp only
  rw [nI_clamp (show k < 2 ^ 31 by omega), hy]
  have i1 : vp_in (nI k) 13 := vp_in_nI hk (by omega)
  refine ⟨i1, pk_eq l (yk_ln w q) (fun c => ?_) (fun c => ⟨i1, pk_le (yk_ln w q) l (fun c2 => ?_) (fun c2 => ?_)⟩)⟩
  · rw [if_neg (by omega)] at h
    exact ⟨p.reverse.length + 1, yy_cb_28 hk hp7 (show q.length < 2 ^ 31 by omega) hd hz h p.reverse q.reverse 0 (yk_fw_sk hsp) (yk_fw_sk hsq) hlb (by rw [List.length_reverse]; omega) (by rw [List.length_reverse]; omega)
      (fun y hy => hp y (List.mem_reverse.mp hy)) (fun y hy => hqb y (List.mem_reverse.mp hy)) _ (by omega)⟩
  · rw [if_neg (by omega)] at h
    exact h
  · rw [if_pos c2] at h
    exact h

theorem yy_shift_30 {post : SY → Prop} {so ta de ke sw ev : Int32} {aa pa tr yl ys yv : Nat → Int32} {k : Nat} (hk : k < 12) (h : post (so, ta, de, ke, sw, ev, aa, pa, tr, yl, ys, yk_cp (k + 1) 7 yv)) :
    ∀ d i, i + d = 7 → ∀ f, d < f → wY_shift_30 post (nI k) so ta de ke sw ev f (nI i) aa pa tr yl ys (yk_cp (k + 1) i yv) := by
  intro d
  induction d with
  | zero =>
    intro i hi f hf
    obtain ⟨f, rfl⟩ : ∃ g, f = g + 1 := ⟨f - 1, by omega⟩
    have e : i = 7 := by omega
    subst e
    exact br_t (by decide) h
  | succ d ih =>
    intro i hi f hf
    obtain ⟨f, rfl⟩ : ∃ g, f = g + 1 := ⟨f - 1, by omega⟩
    rw [wY_shift_30]
    dsimp only
    refine br_f (nI_ge (a := i) (b := 7) (by omega) (by omega)) ?_
    have e0 : 7 * nI k + 7 + nI i = nI (7 * (k + 1) + i) := by
      rw [show (7 : Int32) * nI k + 7 = nI (7 * k + 7) from yy_7 k 7, nI_add]
      rfl
    have e1 : 7 * k + i = 7 * (k + 1) + i - 7 := by omega
    rw [e0, yy_7, e1, nI_clamp (show 7 * (k + 1) + i - 7 < 2 ^ 31 by omega), nI_clamp (show 7 * (k + 1) + i < 2 ^ 31 by omega)]
    refine ⟨vp_in_nI (by omega) (by omega), vp_in_nI (by omega) (by omega), ?_⟩
    rw [yk_cp_r yv (show 7 * (k + 1) + i - 7 < 7 * (k + 1) by omega), yk_cp_s]
    exact nm_e (nm_r (nI_1 i) (ih (i + 1) (by omega) f (by omega)))

theorem yy_shift {post : SY → Prop} {so ta de ke sw ev : Int32} {aa pa tr yl ys yv : Nat → Int32} {k : Nat} (hk : k < 12) (h : post (so, ta, de, ke, sw, ev, aa, pa, tr, upd yl (k + 1) (yl k), upd ys (k + 1) (ys k), yk_cp (k + 1) 7 yv)) : wpY_shift post (so, ta, de, ke, sw, ev, aa, pa, tr, yl, ys, yv) (nI k) := by
  unfold wpY_shift
  dsimp only
  rw [nI_1, nI_clamp (show k < 2 ^ 31 by omega), nI_clamp (show k + 1 < 2 ^ 31 by omega)]
  have i1 : vp_in (nI k) 13 := vp_in_nI (by omega) (by omega)
  have i2 : vp_in (nI (k + 1)) 13 := vp_in_nI (by omega) (by omega)
  have h8 := yy_shift_30 (yl := upd yl (k + 1) (yl k)) (ys := upd ys (k + 1) (ys k)) hk h 7 0 rfl 8 (by omega)
  rw [yk_cp_0] at h8
  exact ⟨i1, i2, nm_e ⟨i1, i2, nm_e ⟨8, h8⟩⟩⟩

def yk_up (n : Nat) : Nat := if n < 12 then n + 1 else n
theorem yy_keep_62 {post : SY → Prop} {so ta de ke sw ev : Int32} {aa pa tr yl ys yv : Nat → Int32} {r m n : Nat} (hr : r < 13) (hm : m ≤ 7) (hd : de = nI m) (hk : ke = nI n) (hn : n ≤ 12)
    (h : post (so, ta, de, nI (yk_up n), sw, ev, aa, pa, tr, yl, ys, yk_pl r m pa yv)) :
    ∀ d i, i + d = m → ∀ f, d < f → wY_keep_62 post (nI r) so ta de ke sw ev f (nI i) aa pa tr yl ys (yk_pl r i pa yv) := by
  subst hd hk
  intro d
  induction d with
  | zero =>
    intro i hi f hf
    obtain ⟨f, rfl⟩ : ∃ g, f = g + 1 := ⟨f - 1, by omega⟩
    have e : i = m := by omega
    subst e
    refine br_t (nI_le (by omega) (by omega)) ?_
    refine pk_le (x := 12) 12 n (fun c => ?_) (fun c => ?_)
    · rw [show yk_up n = n from if_neg (by omega)] at h
      exact h
    · rw [show yk_up n = n + 1 from if_pos (by omega)] at h
      exact nm_r (nI_1 n) h
  | succ d ih =>
    intro i hi f hf
    obtain ⟨f, rfl⟩ : ∃ g, f = g + 1 := ⟨f - 1, by omega⟩
    rw [wY_keep_62]
    dsimp only
    refine br_f (nI_ge (by omega) (by omega)) ?_
    rw [yy_7, nI_clamp (show i < 2 ^ 31 by omega), nI_clamp (show 7 * r + i < 2 ^ 31 by omega), yk_pl_s]
    exact ⟨vp_in_nI (by omega) (by omega), vp_in_nI (by omega) (by omega), nm_e (nm_r (nI_1 i) (ih (i + 1) (by omega) f (by omega)))⟩
end
section
/-! The reference's insertion, and its walk keeps the four rules. -/
theorem yy_k17b {post : SY → Prop} {so ta de ke sw ev : Int32} {aa pa tr yl ys yv : Nat → Int32} {w : Nat → Nat} {A : Nat × (Nat → List Nat)} {p : List Nat} {l r m : Nat}
    (hk : ke = nI A.1) (hn : A.1 ≤ 12) (hd : de = nI p.length) (hp7 : p.length ≤ 7) (hp : ∀ y, y ∈ p → y < 7) (hsp : yk_sk p pa) (hl : l < 2 ^ 31) (hr : r ≤ A.1)
    (hlo : ∀ k, k < r → yk_ln w (A.2 k) ≤ l) (hT : yk_tb w A yl ys yv) (hq : ∀ k, k < A.1 → (A.2 k).length ≤ 7 ∧ (∀ y, y ∈ A.2 k → y < 7) ∧ yk_ln w (A.2 k) < 2 ^ 31 ∧ yk_lb (A.2 k).reverse p.reverse)
    (h : post (so, ta, de, nI (yk_up A.1), sw, ev, aa, pa, tr, upd (yk_s1 r m yl) r (nI l), upd (yk_s1 r m ys) r (nI p.length), yk_pl r p.length pa (yk_s7 r m yv))) :
    ∀ c, c ≤ r → ∀ f, c < f → wY_keep_17 post (nI l) f (nI r) (nI c - 1) so ta de ke sw ev aa pa tr (yk_s1 r m yl) (yk_s1 r m ys) (yk_s7 r m yv) := by
  intro c
  induction c with
  | zero =>
    intro _ f hf
    obtain ⟨f, rfl⟩ : ∃ g, f = g + 1 := ⟨f - 1, by omega⟩
    rw [wY_keep_17]
    dsimp only
    refine br_t (by decide) ?_
    rw [nI_clamp (show r < 2 ^ 31 by omega)]
    have i1 : vp_in (nI r) 13 := vp_in_nI (by omega) (by omega)
    have h62 := yy_keep_62 (yl := upd (yk_s1 r m yl) r (nI l)) (ys := upd (yk_s1 r m ys) r (nI p.length)) (yv := yk_s7 r m yv) (show r < 13 by omega) hp7 hd hk hn h p.length 0 (by omega) (p.length + 1) (by omega)
    rw [yk_pl_0] at h62
    exact ⟨i1, nm_e ⟨i1, nm_r (by rw [hd]) ⟨_, h62⟩⟩⟩
  | succ c ih =>
    intro hc f hf
    obtain ⟨f, rfl⟩ : ∃ g, f = g + 1 := ⟨f - 1, by omega⟩
    rw [wY_keep_17]
    dsimp only
    rw [nI_pred]
    refine br_f (nI_pos (by omega)) ?_
    obtain ⟨q1, q2, q3, q4⟩ := hq c (by omega)
    obtain ⟨t1, t2, t3⟩ := hT c (by omega)
    refine yy_cb (w := w) (p := p) (q := A.2 c) (by omega) hl q3 ((yk_s1_r yl (by omega)).trans t1) ((yk_s1_r ys (by omega)).trans t2) (yk_sk_ag (fun i hi => if_neg (by omega)) t3) hsp hp7 q1 hd hp q2 q4 ?_
    have := hlo c (by omega)
    rw [if_neg (by omega)]
    exact br_t rfl (nm_r (Int32.sub_eq_add_neg _ _).symm (ih (by omega) f (by omega)))

theorem yy_k17a {post : SY → Prop} {so ta de ke sw ev : Int32} {aa pa tr yl ys yv : Nat → Int32} {w : Nat → Nat} {A : Nat × (Nat → List Nat)} {p : List Nat} {l r : Nat}
    (hn : A.1 ≤ 12) (hd : de = nI p.length) (hp7 : p.length ≤ 7) (hp : ∀ y, y ∈ p → y < 7) (hsp : yk_sk p pa) (hl : l < 2 ^ 31)
    (hgt : ∀ k, r ≤ k → k < A.1 → l < yk_ln w (A.2 k)) (hT : yk_tb w A yl ys yv) (hq : ∀ k, k < A.1 → (A.2 k).length ≤ 7 ∧ (∀ y, y ∈ A.2 k → y < 7) ∧ yk_ln w (A.2 k) < 2 ^ 31 ∧ yk_lb (A.2 k).reverse p.reverse)
    (h : ∀ f, r < f → wY_keep_17 post (nI l) f (nI r) (nI r - 1) so ta de ke sw ev aa pa tr (yk_s1 r (A.1 + 1) yl) (yk_s1 r (A.1 + 1) ys) (yk_s7 r (A.1 + 1) yv)) :
    ∀ d c, c = r + d → c ≤ A.1 → ∀ f, c < f → wY_keep_17 post (nI l) f (nI c) (nI c - 1) so ta de ke sw ev aa pa tr (yk_s1 c (A.1 + 1) yl) (yk_s1 c (A.1 + 1) ys) (yk_s7 c (A.1 + 1) yv) := by
  intro d
  induction d with
  | zero =>
    intro c hc _ f hf
    have e : c = r := by omega
    subst e
    exact h f hf
  | succ d ih =>
    intro c hc hcn f hf
    obtain ⟨f, rfl⟩ : ∃ g, f = g + 1 := ⟨f - 1, by omega⟩
    obtain ⟨c, rfl⟩ : ∃ g, c = g + 1 := ⟨c - 1, by omega⟩
    rw [wY_keep_17]
    dsimp only
    rw [nI_pred]
    refine br_f (nI_pos (by omega)) ?_
    obtain ⟨q1, q2, q3, q4⟩ := hq c (by omega)
    obtain ⟨t1, t2, t3⟩ := hT c (by omega)
    refine yy_cb (w := w) (p := p) (q := A.2 c) (by omega) hl q3 ((yk_s1_r yl (by omega)).trans t1) ((yk_s1_r ys (by omega)).trans t2) (yk_sk_ag (fun i hi => if_neg (by omega)) t3) hsp hp7 q1 hd hp q2 q4 ?_
    rw [if_pos (hgt c (by omega) (by omega))]
    refine br_f (by decide) ?_
    refine yy_shift (by omega) ?_
    dsimp only
    rw [yk_s1_r yl (show c ≤ c + 1 by omega), yk_s1_r ys (show c ≤ c + 1 by omega), yk_s1_s yl (by omega), yk_s1_s ys (by omega), yk_s7_s yv (by omega)]
    exact nm_r (Int32.sub_eq_add_neg _ _).symm (ih c (by omega) (by omega) f (by omega))

/-- what a kept path leaves -/
theorem yy_keepE {so ta de ke : Int32} {aa pa tr yl ys yv : Nat → Int32} {w : Nat → Nat} {A : Nat × (Nat → List Nat)} {p : List Nat}
    (haa : ∀ c, aa c = nI (w c)) (hpn : p ≠ []) (hk : ke = nI A.1) (hn : A.1 ≤ 12) (hso : yk_so w A) (hd : de = nI p.length) (hp7 : p.length ≤ 7) (hp : ∀ y, y ∈ p → y < 7) (hsp : yk_sk p pa) (hl : yk_ln w p < 2 ^ 31)
    (hT : yk_tb w A yl ys yv) (hq : ∀ k, k < A.1 → (A.2 k).length ≤ 7 ∧ (∀ y, y ∈ A.2 k → y < 7) ∧ yk_ln w (A.2 k) < 2 ^ 31 ∧ yk_lb (A.2 k).reverse p.reverse) :
    ∃ yl' ys' yv', yk_tb w (yk_ad w A p) yl' ys' yv' ∧ ∀ (post : SY → Prop) (sw ev : Int32), post (so, ta, de, nI (yk_ad w A p).1, sw, ev, aa, pa, tr, yl', ys', yv') → wpY_keep post (so, ta, de, ke, sw, ev, aa, pa, tr, yl, ys, yv) := by
  have hn1 := yk_ad_1 w A p
  have hr := yk_rk_le w A.2 (yk_ln w p) A.1
  refine ⟨_, _, _, yk_tb_put hT (fun k hk => (hq k hk).1) hp7 hn (yk_rk w A.2 (yk_ln w p) A.1) (A.1 + 1) rfl (by rw [hn1]; split <;> omega) hsp, fun post sw ev h => ?_⟩
  unfold wpY_keep
  dsimp only
  refine yy_len haa hsp hpn hp hp7 hd ?_
  subst hk
  have hb := fun f (hf : yk_rk w A.2 (yk_ln w p) A.1 < f) => yy_k17b (w := w) (A := A) (m := A.1 + 1) rfl hn hd hp7 hp hsp hl hr (fun k hk => yk_rk_lo hso (yk_ln w p) k hk) hT hq h (yk_rk w A.2 (yk_ln w p) A.1) (Nat.le_refl _) f hf
  have ha := yy_k17a (w := w) (A := A) hn hd hp7 hp hsp hl (yk_rk_gt w A.2 (yk_ln w p) A.1) hT hq hb (A.1 - yk_rk w A.2 (yk_ln w p) A.1) A.1 (by omega) (by omega) (A.1 + 1) (by omega)
  rw [yk_s1_t yl (by omega), yk_s1_t ys (by omega), yk_s7_t yv (by omega)] at ha
  exact nm_e ⟨_, ha⟩

theorem yy_found_11 {post : SY → Prop} {so ta de ke sw ev : Int32} {aa pa tr yl ys yv : Nat → Int32} {m : Nat} {u v x3 : Int32} (hm : m ≤ 7) (hd : de = nI m) :
    ∀ l i msk, yk_fw l pa i → i + l.length = m → (∀ f, 0 < f → wY_found_11 post u v x3 so ta de ke sw ev aa pa tr yl ys yv f (l.foldl (fun m x => m ||| yk_sh x) msk) (nI m)) →
      ∀ f, l.length < f → wY_found_11 post u v x3 so ta de ke sw ev aa pa tr yl ys yv f msk (nI i) := by
  intro l
  induction l with
  | nil =>
    intro i msk _ hi h f hf
    rw [List.length_nil] at hi
    have e : i = m := by omega
    subst e
    exact h f (by omega)
  | cons y l ih =>
    intro i msk hw hi h f hf
    rw [List.length_cons] at hi hf
    have h2 := ih (i + 1) (msk ||| yk_sh y) hw.2 (by omega) h
    obtain ⟨f, rfl⟩ : ∃ g, f = g + 1 := ⟨f - 1, by omega⟩
    rw [wY_found_11]
    dsimp only
    refine br_f (by rw [hd]; exact nI_ge (by omega) (by omega)) ?_
    rw [nI_clamp (show i < 2 ^ 31 by omega), hw.1]
    exact ⟨vp_in_nI (by omega) (by omega), nm_e (nm_r (nI_1 i) (h2 f (by omega)))⟩

def yk_nw (sw x : Int32) (b : Bool) : Int32 := if b = true then sw else if sw = -2 ∨ x < sw then x else sw

theorem yy_foundE {so ta de ke : Int32} {aa pa tr yl ys yv : Nat → Int32} {w : Nat → Nat} {A : Nat × (Nat → List Nat)} {p : List Nat}
    (haa : ∀ c, aa c = nI (w c)) (hpn : p ≠ []) (hk : ke = nI A.1) (hn : A.1 ≤ 12) (hso : yk_so w A) (hd : de = nI p.length) (hp7 : p.length ≤ 7) (hp : ∀ y, y ∈ p → y < 7) (hsp : yk_sk p pa) (hl : yk_ln w p < 2 ^ 31)
    (hT : yk_tb w A yl ys yv) (hq : ∀ k, k < A.1 → (A.2 k).length ≤ 7 ∧ (∀ y, y ∈ A.2 k → y < 7) ∧ yk_ln w (A.2 k) < 2 ^ 31 ∧ yk_lb (A.2 k).reverse p.reverse) (u v : Int32) :
    ∃ yl' ys' yv', yk_tb w (yk_ad w A p) yl' ys' yv' ∧ ∀ (post : SY → Prop) (sw ev : Int32), post (so, ta, de, nI (yk_ad w A p).1, yk_nw sw (nI (yk_ln w p)) (yk_ps u v p), ev &&& yk_mk p, aa, pa, tr, yl', ys', yv') → wpY_found post (so, ta, de, ke, sw, ev, aa, pa, tr, yl, ys, yv) u v := by
  obtain ⟨yl', ys', yv', h1, h2⟩ := yy_keepE (so := so) (ta := ta) (tr := tr) haa hpn hk hn hso hd hp7 hp hsp hl hT hq
  refine ⟨yl', ys', yv', h1, fun post sw ev h => ?_⟩
  unfold wpY_found
  dsimp only
  refine yy_len haa hsp hpn hp hp7 hd ?_
  refine ⟨p.reverse.length + 1, yy_found_11 hp7 hd p.reverse 0 0 (yk_fw_sk hsp) (by rw [List.length_reverse]; omega) (fun f hf => ?_) _ (by omega)⟩
  rw [yk_mk_fo]
  obtain ⟨f, rfl⟩ : ∃ g, f = g + 1 := ⟨f - 1, by omega⟩
  rw [wY_found_11]
  dsimp only
  refine br_t (by rw [hd]; exact nI_le (by omega) (by omega)) (nm_e ?_)
  refine yy_pp hsp hpn hp7 hd ?_
  cases hps : yk_ps u v p with
  | true =>
    rw [hps] at h
    refine br_f (by decide) ?_
    exact h2 _ _ _ h
  | false =>
    rw [hps] at h
    refine br_t rfl (br_c (fun c => ?_) (fun c => br_c (fun c2 => ?_) (fun c2 => ?_)))
    · rw [show yk_nw sw (nI (yk_ln w p)) false = nI (yk_ln w p) from (if_neg (c := false = true) (by decide)).trans (if_pos (c := sw = -2 ∨ nI (yk_ln w p) < sw) (Or.inl c))] at h
      exact h2 _ _ _ h
    · rw [show yk_nw sw (nI (yk_ln w p)) false = sw from (if_neg (c := false = true) (by decide)).trans (if_neg (c := sw = -2 ∨ nI (yk_ln w p) < sw) (fun z => z.elim c (fun z => Int32.not_lt.mpr c2 z)))] at h
      exact h2 _ _ _ h
    · rw [show yk_nw sw (nI (yk_ln w p)) false = nI (yk_ln w p) from (if_neg (c := false = true) (by decide)).trans (if_pos (c := sw = -2 ∨ nI (yk_ln w p) < sw) (Or.inr (Int32.not_le.mp c2)))] at h
      exact h2 _ _ _ h

theorem yk_sw_st {w : Nat → Nat} (hw : ∀ c, w c ≤ 50) {u v : Int32} {K : List (List Nat)} {p : List Nat} (hK : ∀ q, q ∈ K → q.length ≤ 7) (hp : p.length ≤ 7) :
    yk_sw w (yk_ac w ((K ++ [p]).filter (fun q => !yk_ps u v q))) = yk_nw (yk_sw w (yk_ac w (K.filter (fun q => !yk_ps u v q)))) (nI (yk_ln w p)) (yk_ps u v p) := by
  have hlb : ∀ q : List Nat, q.length ≤ 7 → yk_ln w q < 2 ^ 31 := by
    intro q hq
    have := yk_ln_le hw q
    omega
  rw [List.filter_append]
  cases hps : yk_ps u v p with
  | true =>
    have e : List.filter (fun q => !yk_ps u v q) [p] = [] := by simp [hps]
    rw [e, List.append_nil]
    rfl
  | false =>
    have e : List.filter (fun q => !yk_ps u v q) [p] = [p] := by simp [hps]
    have hiv := yk_iv_ac w (K.filter (fun q => !yk_ps u v q))
    rw [e, yk_ac_s, yk_sw_ad hiv.2.2 p (hlb p hp) (fun h0 => hlb _ (hK _ (List.mem_filter.mp (hiv.2.1 0 h0)).1))]
    rfl

def yy_J (w : Nat → Nat) (a : Nat → Int32) (s t : Nat) (u v : Int32) (p : List Nat) (K : List (List Nat)) (y : SY) : Prop := match y with
  | (so, ta, de, ke, sw, ev, aa, pa, _, yl, ys, yv) => so = nI s ∧ ta = nI t ∧ de = nI p.length ∧ ke = nI (yk_ac w K).1 ∧ sw = yk_sw w (yk_ac w (K.filter (fun q => !yk_ps u v q))) ∧ ev = yk_ms K ∧ aa = a ∧ yk_sk p pa ∧ yk_tb w (yk_ac w K) yl ys yv ∧ ∀ q, q ∈ K → q.length ≤ 7 ∧ ∀ y, y ∈ q → y < 7
def yy_nx (y : SY) (i : Nat) : Int32 := y.2.2.2.2.2.2.2.2.1 i
def yy_W (post : SY → Prop) (u v : Int32) (n k : Nat) (y : SY) : Prop := match y with
  | (so, ta, de, ke, sw, ev, aa, pa, tr, yl, ys, yv) => wY_search_41 post u v n (nI k) so ta de ke sw ev aa pa tr yl ys yv

theorem yy_r1 (post : SY → Prop) (w : Nat → Nat) (a : Nat → Int32) (s t : Nat) (ht : t < 7) (u v : Int32) : yk_R1 (yy_W post u v) (yy_J w a s t u v) yy_nx 20000 t := by
  intro x r K y k hv hJ hn hx hk
  obtain ⟨so, ta, de, ke, sw, ev, aa, pa, tr, yl, ys, yv⟩ := y
  obtain ⟨h1, h2, h3, h4, h5, h6, h7, h8, h9, h10⟩ := hJ
  have hlen := yk_vt_len hv
  rw [List.length_cons] at hlen h3
  have hx7 := hv.2 x (List.mem_cons_self ..)
  have hn' : tr (r.length + 1) = nI 7 := hn
  subst h3
  have hxt : ¬ nI x = ta := fun z => hx ((nI_eq (by omega) (by omega)).mp (z.trans h2))
  refine ⟨(so, ta, nI r.length, ke, sw, ev, aa, pa, upd tr (r.length + 1) (nI 7 + 1), yl, ys, yv), ⟨h1, h2, rfl, h4, h5, h6, h7, h8.2, h9, h10⟩, ?_, ?_⟩
  · intro i hi
    exact pk_un (by omega)
  · intro n hW
    show wY_search_41 post u v (n + 1) (nI k) so ta (nI (r.length + 1)) ke sw ev aa pa tr yl ys yv
    rw [wY_search_41]
    dsimp only
    refine br_f (nI_ge (a := k) (b := 20000) (by omega) (by omega)) (br_f (nI_nle (by omega) (by omega)) ?_)
    unfold wpY_turn
    dsimp only
    rw [nI_pred, nI_clamp (show r.length < 2 ^ 31 by omega), nI_clamp (show r.length + 1 < 2 ^ 31 by omega), show pa r.length = nI x from h8.1, hn']
    have i1 : vp_in (nI r.length) 7 := vp_in_nI (by omega) (by omega)
    have i2 : vp_in (nI (r.length + 1)) 8 := vp_in_nI (by omega) (by omega)
    refine ⟨i1, nm_e ⟨i2, nm_e ⟨i2, i2, nm_e (br_f hxt (br_f (by decide) ?_))⟩⟩⟩
    unfold wY_turn_51
    refine br_f hxt ?_
    unfold wY_turn_65
    dsimp only
    exact nm_r (nI_pred _) (nm_r (nI_1 k) hW)

theorem yy_r2 (post : SY → Prop) {w : Nat → Nat} {a : Nat → Int32} (s t : Nat) (ht : t < 7) (u v : Int32) (ha : ∀ c, a c = nI (w c)) (hw : ∀ c, w c ≤ 50) : yk_R2 (yy_W post u v) (yy_J w a s t u v) yy_nx 20000 (yk_ok w 49) t := by
  intro x r K y k d hv hJ h7' hn hx hbl hk
  obtain ⟨so, ta, de, ke, sw, ev, aa, pa, tr, yl, ys, yv⟩ := y
  obtain ⟨h1, h2, h3, h4, h5, h6, h7, h8, h9, h10⟩ := hJ
  have hlen := yk_vt_len hv
  rw [List.length_cons] at hlen h3
  have hx7 := hv.2 x (List.mem_cons_self ..)
  have hn' : tr (r.length + 1) = nI d := hn
  subst h3
  have hxt : ¬ nI x = ta := fun z => hx ((nI_eq (by omega) (by omega)).mp (z.trans h2))
  refine ⟨(so, ta, nI (r.length + 1), ke, sw, ev, aa, pa, upd tr (r.length + 1) (nI (d + 1)), yl, ys, yv), ⟨h1, h2, rfl, h4, h5, h6, h7, h8, h9, h10⟩, pk_us, ?_, ?_⟩
  · intro i hi
    exact pk_un (by omega)
  · intro n hW
    show wY_search_41 post u v (n + 1) (nI k) so ta (nI (r.length + 1)) ke sw ev aa pa tr yl ys yv
    rw [wY_search_41]
    dsimp only
    refine br_f (nI_ge (a := k) (b := 20000) (by omega) (by omega)) (br_f (nI_nle (by omega) (by omega)) ?_)
    unfold wpY_turn
    dsimp only
    rw [nI_pred, nI_clamp (show r.length < 2 ^ 31 by omega), nI_clamp (show r.length + 1 < 2 ^ 31 by omega), show pa r.length = nI x from h8.1, hn']
    have i1 : vp_in (nI r.length) 7 := vp_in_nI (by omega) (by omega)
    have i2 : vp_in (nI (r.length + 1)) 8 := vp_in_nI (by omega) (by omega)
    refine ⟨i1, nm_e ⟨i2, nm_e ⟨i2, i2, nm_r (by rw [nI_1]) (br_f hxt (br_t (nI_le (b := 6) (by omega) (by omega)) ?_))⟩⟩⟩
    rw [yy_7, nI_clamp (show 7 * x + d < 2 ^ 31 by omega), h7, ha]
    have hw1 := hw (7 * x + d)
    refine ⟨vp_in_nI (by omega) (by omega), pk_le (w (7 * x + d)) 0 (fun c => ?_) (fun c => ?_)⟩
    · rw [← h7]
      exact nm_r (nI_1 k) hW
    · refine yy_onPath (p := x :: r) (by omega) h8 hv.2 (by rw [List.length_cons]; omega) rfl ?_
      have hc : (x :: r).contains d = true := by
        have h := hbl
        unfold yk_bl yk_ok at h
        rw [show (x :: r).headD 0 = x from rfl, decide_eq_true (show w (7 * x + d) ≠ 0 by omega), decide_eq_true (show 7 * x + d ≠ 49 by omega)] at h
        simpa using h
      rw [if_pos hc]
      refine br_f (by decide) ?_
      rw [← h7]
      exact nm_r (nI_1 k) hW

theorem yy_push (post : SY → Prop) {w : Nat → Nat} {a : Nat → Int32} (s t : Nat) (ht : t < 7) (u v : Int32) (ha : ∀ c, a c = nI (w c)) (hw : ∀ c, w c ≤ 50) :
    ∀ x r K y k d, yk_vt (d :: x :: r) → yy_J w a s t u v (x :: r) K y → d < 7 → yy_nx y (r.length + 1) = nI d → x ≠ t → yk_bl (yk_ok w 49) (x :: r) d = false → k + 2 ≤ 20000 →
    ∃ s', yy_J w a s t u v (d :: x :: r) K s' ∧ yy_nx s' (r.length + 2) = nI 0 ∧ yy_nx s' (r.length + 1) = nI (d + 1) ∧ (∀ i, i ≤ r.length → yy_nx s' i = yy_nx y i) ∧ ∀ n, yy_W post u v n (k + 1) s' → yy_W post u v (n + 1) k y := by
  intro x r K y k d hvv hJ h7' hn hx hbl hk
  obtain ⟨so, ta, de, ke, sw, ev, aa, pa, tr, yl, ys, yv⟩ := y
  obtain ⟨h1, h2, h3, h4, h5, h6, h7, h8, h9, h10⟩ := hJ
  have hlen := yk_vt_len hvv
  rw [List.length_cons, List.length_cons] at hlen
  rw [List.length_cons] at h3
  have hv : yk_vt (x :: r) := ⟨(List.nodup_cons.mp hvv.1).2, fun y hy => hvv.2 y (List.mem_cons_of_mem d hy)⟩
  have hx7 := hv.2 x (List.mem_cons_self ..)
  have hn' : tr (r.length + 1) = nI d := hn
  subst h3
  have hxt : ¬ nI x = ta := fun z => hx ((nI_eq (by omega) (by omega)).mp (z.trans h2))
  obtain ⟨hok1, hok2⟩ := yk_bl_ok hbl
  refine ⟨(so, ta, nI (r.length + 1 + 1), ke, sw, ev, aa, upd pa (r.length + 1) (nI d), upd (upd tr (r.length + 1) (nI (d + 1))) (r.length + 2) 0, yl, ys, yv), ⟨h1, h2, rfl, h4, h5, h6, h7, ⟨pk_us, yk_sk_ag (fun i hi => ?_) h8⟩, h9, h10⟩, pk_us, ?_, ?_, ?_⟩
  · rw [List.length_cons] at hi
    exact pk_un (by omega)
  · exact (pk_un (by omega)).trans pk_us
  · intro i hi
    exact (pk_un (by omega)).trans (pk_un (by omega))
  · intro n hW
    show wY_search_41 post u v (n + 1) (nI k) so ta (nI (r.length + 1)) ke sw ev aa pa tr yl ys yv
    rw [wY_search_41]
    dsimp only
    refine br_f (nI_ge (a := k) (b := 20000) (by omega) (by omega)) (br_f (nI_nle (by omega) (by omega)) ?_)
    unfold wpY_turn
    dsimp only
    rw [nI_pred, nI_clamp (show r.length < 2 ^ 31 by omega), nI_clamp (show r.length + 1 < 2 ^ 31 by omega), show pa r.length = nI x from h8.1, hn']
    have i1 : vp_in (nI r.length) 7 := vp_in_nI (by omega) (by omega)
    have i2 : vp_in (nI (r.length + 1)) 8 := vp_in_nI (by omega) (by omega)
    refine ⟨i1, nm_e ⟨i2, nm_e ⟨i2, i2, nm_r (by rw [nI_1]) (br_f hxt (br_t (nI_le (b := 6) (by omega) (by omega)) ?_))⟩⟩⟩
    rw [yy_7, nI_clamp (show 7 * x + d < 2 ^ 31 by omega), h7, ha]
    have hw1 := hw (7 * x + d)
    refine ⟨vp_in_nI (by omega) (by omega), br_f (nI_nle (by omega) (by omega)) ?_⟩
    refine yy_onPath (p := x :: r) (by omega) h8 hv.2 (by rw [List.length_cons]; omega) rfl ?_
    rw [yk_bl_c hbl, if_neg (by decide)]
    refine br_t rfl ⟨vp_in_nI (by omega) (by omega), nm_e (nm_r (nI_1 _) ?_)⟩
    rw [nI_clamp (show r.length + 1 + 1 < 2 ^ 31 by omega)]
    refine pk_le (x := 7) 7 (r.length + 1 + 1) (fun c => ?_) (fun c => ⟨vp_in_nI (by omega) (by omega), ?_⟩)
    · have e : r.length + 2 = 7 := by omega
      rw [e] at hW
      rw [← h7, show r.length + 1 + 1 = 7 by omega]
      exact nm_e (nm_r (nI_1 k) hW)
    · rw [← h7]
      exact nm_e (nm_r (nI_1 k) hW)

theorem yy_r3 (post : SY → Prop) {w : Nat → Nat} {a : Nat → Int32} (s t : Nat) (ht : t < 7) (u v : Int32) (ha : ∀ c, a c = nI (w c)) (hw : ∀ c, w c ≤ 50) : yk_R3 (yy_W post u v) (yy_J w a s t u v) yy_nx 20000 (yk_ok w 49) t :=
  fun x r K y k d hvv hJ h7 hn hx hbl _ hk => yy_push post s t ht u v ha hw x r K y k d hvv hJ h7 hn hx hbl hk

theorem yy_hit (post : SY → Prop) {w : Nat → Nat} {a : Nat → Int32} (s t : Nat) (ht : t < 7) (u v : Int32) (ha : ∀ c, a c = nI (w c)) (hw : ∀ c, w c ≤ 50) :
    ∀ x r K y k, yk_vt (t :: x :: r) → yy_J w a s t u v (t :: x :: r) K y → k + 1 ≤ 20000 → yk_pw (K ++ [t :: x :: r]) →
    ∃ s', yy_J w a s t u v (x :: r) (K ++ [t :: x :: r]) s' ∧ (∀ i, i ≤ r.length + 1 → yy_nx s' i = yy_nx y i) ∧ ∀ n, yy_W post u v n (k + 1) s' → yy_W post u v (n + 1) k y := by
  intro x r K y k hvv hJ hk hpw
  obtain ⟨so, ta, de, ke, sw, ev, aa, pa, tr, yl, ys, yv⟩ := y
  obtain ⟨h1, h2, h3, h4, h5, h6, h7, h8, h9, h10⟩ := hJ
  have hlen := yk_vt_len hvv
  have hlen' := hlen
  rw [List.length_cons, List.length_cons] at hlen
  have hlb : ∀ q : List Nat, q.length ≤ 7 → yk_ln w q < 2 ^ 31 := by
    intro q hq
    have := yk_ln_le hw q
    omega
  have hiv := yk_iv_ac w K
  have hpw' := (List.pairwise_append.mp hpw).2.2
  have haa : ∀ c, aa c = nI (w c) := fun c => by rw [h7]; exact ha c
  obtain ⟨yl', ys', yv', hT, hF⟩ := yy_foundE (so := so) (ta := ta) (tr := upd tr (r.length + 1 + 1) (tr (r.length + 1 + 1) + 1)) haa (List.cons_ne_nil _ _) h4 hiv.1 hiv.2.2 h3 hlen' hvv.2 h8 (hlb _ hlen') h9
    (fun k hk => ⟨(h10 _ (hiv.2.1 k hk)).1, (h10 _ (hiv.2.1 k hk)).2, hlb _ (h10 _ (hiv.2.1 k hk)).1, hpw' _ (hiv.2.1 k hk) _ (List.mem_singleton.mpr rfl)⟩) u v
  rw [← yk_ac_s] at hT hF
  rw [List.length_cons, List.length_cons] at h3
  have hsw := yk_sw_st hw (u := u) (v := v) (K := K) (p := t :: x :: r) (fun q hq => (h10 q hq).1) hlen'
  rw [← h5] at hsw
  have hms := yk_ms_s K (t :: x :: r)
  rw [← h6] at hms
  refine ⟨(so, ta, nI (r.length + 1), nI (yk_ac w (K ++ [t :: x :: r])).1, yk_nw sw (nI (yk_ln w (t :: x :: r))) (yk_ps u v (t :: x :: r)), ev &&& yk_mk (t :: x :: r), aa, pa, upd tr (r.length + 1 + 1) (tr (r.length + 1 + 1) + 1), yl', ys', yv'),
    ⟨h1, h2, rfl, rfl, hsw.symm, hms.symm, h7, h8.2, hT, ?_⟩, ?_, ?_⟩
  · intro q hq
    rcases List.mem_append.mp hq with hq | hq
    · exact h10 q hq
    · rw [List.mem_singleton.mp hq]
      exact ⟨hlen', hvv.2⟩
  · intro i hi
    exact pk_un (by omega)
  · intro n hW
    subst h3
    show wY_search_41 post u v (n + 1) (nI k) so ta (nI (r.length + 1 + 1)) ke sw ev aa pa tr yl ys yv
    rw [wY_search_41]
    dsimp only
    refine br_f (nI_ge (a := k) (b := 20000) (by omega) (by omega)) (br_f (nI_nle (by omega) (by omega)) ?_)
    unfold wpY_turn
    dsimp only
    rw [nI_pred, nI_clamp (show r.length + 1 < 2 ^ 31 by omega), nI_clamp (show r.length + 1 + 1 < 2 ^ 31 by omega), show pa (r.length + 1) = nI t from h8.1]
    have i1 : vp_in (nI (r.length + 1)) 7 := vp_in_nI (by omega) (by omega)
    have i2 : vp_in (nI (r.length + 1 + 1)) 8 := vp_in_nI (by omega) (by omega)
    refine ⟨i1, nm_e ⟨i2, nm_e ⟨i2, i2, nm_e (br_t h2.symm ?_)⟩⟩⟩
    unfold wY_turn_51
    refine br_t h2.symm ?_
    refine hF _ _ _ ?_
    unfold wY_turn_65
    dsimp only
    exact nm_r (nI_pred _) (nm_r (nI_1 k) hW)

theorem yy_r4 (post : SY → Prop) {w : Nat → Nat} {a : Nat → Int32} (s t : Nat) (ht : t < 7) (u v : Int32) (ha : ∀ c, a c = nI (w c)) (hw : ∀ c, w c ≤ 50) : yk_R4 (yy_W post u v) (yy_J w a s t u v) yy_nx 20000 (yk_ok w 49) t := by
  intro x r K y k d hvv hJ h7 hn hx hbl hdt hk hpw
  obtain ⟨s1, a1, a2, a3, a4, a5⟩ := yy_push post s t ht u v ha hw x r K y k d hvv hJ h7 hn hx hbl hk
  subst hdt
  obtain ⟨s2, b1, b2, b3⟩ := yy_hit post s d ht u v ha hw x r K s1 (k + 1) hvv a1 (by omega) hpw
  exact ⟨s2, 2, by omega, b1, (b2 _ (by omega)).trans a3, fun i hi => (b2 i (by omega)).trans (a4 i hi), fun n h => a5 (n + 1) (b3 n h)⟩
end
section
/-! The two searches, each against the list of all paths. -/
theorem yk_vt1 {s : Nat} (hs : s < 7) : yk_vt [s] := by
  refine ⟨List.nodup_cons.mpr ⟨by simp, List.nodup_nil⟩, fun x hx => ?_⟩
  rw [List.mem_singleton.mp hx]
  exact hs
theorem yk_cn1 {s : Nat} (hs : s < 7) : yk_cn [s] 7 ≤ 6 := by
  have h := yk_cn_all (yk_vt1 hs)
  have e : [s].length = 1 := rfl
  omega
theorem yk_co7 : yk_co 7 = 15656 := by decide +kernel

theorem yx_rank {post : SX → Prop} {so ta ra oe la ot : Int32} {aw al az av tv tl nt : Nat → Int32} {w : Nat → Nat} {a : Nat → Int32} {s t : Nat} {fI : Int32} {fb : Nat} (ha : ∀ c, a c = nI (w c)) (hw : ∀ c, w c ≤ 50) (hs : s < 7) (ht : t < 7) (hst : s ≠ t)
    (hfb : ∀ c, c < 49 → (nI c = fI ↔ c = fb)) (h1 : so = nI s) (h2 : ta = nI t) (h7 : aw = a)
    (H : ∀ u, yx_J w a s t [] (yk_ds (yk_ok w fb) t 7 [s]) u → post u) : wpX_rankPaths post (so, ta, ra, oe, la, ot, aw, al, az, av, tv, tl, nt) fI := by
  unfold wpX_rankPaths
  dsimp only
  refine yx_stepTo (m := 0) (by omega) (by decide) ?_
  dsimp only
  have hJ : yx_J w a s t [s] [] (so, ta, 0, 127, nI 0, 0 ||| yk_si so, aw, al, az, av, upd tv 0 so, upd tl 0 0, upd nt 0 0) := by
    refine ⟨h1, h2, rfl, rfl, (nI_pred 0).symm, by rw [h1]; rfl, h7, fun k hk => absurd hk (Nat.not_lt_zero k), ⟨pk_us.trans h1, True.intro⟩, ⟨pk_us, True.intro⟩, fun q hq => absurd hq (List.not_mem_nil)⟩
  have hco := yk_co7
  obtain ⟨s', c, b1, b2, b3, b4⟩ := yk_dfs (yx_r1 post w a s t fI) (yx_r2 post s t ha hw hfb) (yx_r3 post s t ht ha hw hfb) (yx_r4 post s t ha hw hfb) 6 s [] (yk_vt1 hs) hst (yk_cn1 hs) _ 0 [] hJ (show upd nt 0 0 0 = nI 0 from pk_us) (by rw [List.nil_append]; exact yk_ds_pw 7 [s]) (by rw [hco]; omega)
  rw [List.nil_append] at b1
  rw [hco] at b3
  refine ⟨1 + c, b4 1 ?_⟩
  have hH := H s' b1
  obtain ⟨so, ta, ra, oe, la, ot, aw, al, az, av, tv, tl, nt⟩ := s'
  obtain ⟨_, _, _, _, h5, _⟩ := b1
  show wX_rankPaths_32 post fI 1 (nI (0 + c)) so ta ra oe la ot aw al az av tv tl nt
  rw [wX_rankPaths_32]
  dsimp only
  refine br_f (nI_ge (a := 0 + c) (b := 1000000) (by omega) (by omega)) (br_t ?_ hH)
  rw [h5]
  decide

theorem yy_search {post : SY → Prop} {so ta de ke sw ev : Int32} {aa pa tr yl ys yv : Nat → Int32} {w : Nat → Nat} {a : Nat → Int32} {s t : Nat} {u v : Int32} (ha : ∀ c, a c = nI (w c)) (hw : ∀ c, w c ≤ 50) (hs : s < 7) (ht : t < 7) (hst : s ≠ t)
    (h1 : so = nI s) (h2 : ta = nI t) (h7 : aa = a)
    (H : ∀ y, yy_J w a s t u v [] (yk_ds (yk_ok w 49) t 7 [s]) y → post y) : wpY_search post (so, ta, de, ke, sw, ev, aa, pa, tr, yl, ys, yv) u v := by
  unfold wpY_search
  dsimp only
  refine nm_e (nm_e ?_)
  have hJ : yy_J w a s t u v [s] [] (so, ta, 1, 0, -2, 127, aa, upd pa 0 so, upd tr 1 0, yl, ys, yv) := by
    refine ⟨h1, h2, rfl, rfl, rfl, rfl, h7, ⟨pk_us.trans h1, True.intro⟩, fun k hk => absurd hk (Nat.not_lt_zero k), fun q hq => absurd hq (List.not_mem_nil)⟩
  have hco := yk_co7
  obtain ⟨s', c, b1, b2, b3, b4⟩ := yk_dfs (yy_r1 post w a s t ht u v) (yy_r2 post s t ht u v ha hw) (yy_r3 post s t ht u v ha hw) (yy_r4 post s t ht u v ha hw) 6 s [] (yk_vt1 hs) hst (yk_cn1 hs) _ 0 [] hJ (show upd tr 1 0 1 = nI 0 from pk_us) (by rw [List.nil_append]; exact yk_ds_pw 7 [s]) (by rw [hco]; omega)
  rw [List.nil_append] at b1
  rw [hco] at b3
  refine ⟨1 + c, b4 1 ?_⟩
  have hH := H s' b1
  obtain ⟨so, ta, de, ke, sw, ev, aa, pa, tr, yl, ys, yv⟩ := s'
  obtain ⟨_, _, h5, _⟩ := b1
  show wY_search_41 post u v 1 (nI (0 + c)) so ta de ke sw ev aa pa tr yl ys yv
  rw [wY_search_41]
  dsimp only
  refine br_f (nI_ge (a := 0 + c) (b := 20000) (by omega) (by omega)) (br_t ?_ hH)
  rw [h5]
  decide

theorem yx_ps_9 {post : Int32 → Prop} {so ta ra oe la ot : Int32} {aw al az av tv tl nt : Nat → Int32} {k m : Nat} {u v : Int32} (hk : k < 12) (hm : m ≤ 7) (hz : az k = nI m) :
    ∀ l a i, yk_fw (a :: l) (fun i => av (7 * k + i)) i → i + 1 + l.length = m → post (if yk_pf u v a l = true then 1 else 0) → ∀ f, l.length < f → wX_passes_9 post (nI k) u v (nI (7 * k)) so ta ra oe la ot aw al az av tv tl nt f (nI (i + 1)) := by
  intro l
  induction l with
  | nil =>
    intro a i _ hi h f hf
    obtain ⟨f, rfl⟩ : ∃ g, f = g + 1 := ⟨f - 1, by omega⟩
    rw [List.length_nil] at hi
    rw [wX_passes_9]
    dsimp only
    rw [nI_clamp (show k < 2 ^ 31 by omega), hz]
    exact ⟨vp_in_nI hk (by omega), br_t (nI_le (by omega) (by omega)) h⟩
  | cons b l ih =>
    intro a i hf1 hi h f hf
    rw [List.length_cons] at hi hf
    obtain ⟨f, rfl⟩ : ∃ g, f = g + 1 := ⟨f - 1, by omega⟩
    have hn : (yk_pf u v a (b :: l) = yk_pf u v b l) → wX_passes_9 post (nI k) u v (nI (7 * k)) so ta ra oe la ot aw al az av tv tl nt f (nI (i + 1 + 1)) := by
      intro e
      rw [e] at h
      exact ih b (i + 1) hf1.2 (by omega) h f (by omega)
    have g1 : av (7 * k + i) = nI a := hf1.1
    have g2 : av (7 * k + (i + 1)) = nI b := hf1.2.1
    rw [wX_passes_9]
    dsimp only
    have e1 : nI (7 * k) + nI (i + 1) = nI (7 * k + i + 1) := nI_add _ _
    rw [nI_clamp (show k < 2 ^ 31 by omega), hz, e1, nI_pred, nI_clamp (show 7 * k + i < 2 ^ 31 by omega), nI_clamp (show 7 * k + i + 1 < 2 ^ 31 by omega), g1, Nat.add_assoc, g2]
    refine ⟨vp_in_nI hk (by omega), br_f (nI_ge (by omega) (by omega)) ⟨vp_in_nI (by omega) (by omega), br_c (fun c => ⟨vp_in_nI (by omega) (by omega), br_c (fun c2 => ?_) (fun c2 => nm_r (nI_1 (i + 1)) (hn ?_))⟩) (fun c => nm_r (nI_1 (i + 1)) (hn ?_))⟩⟩
    · rw [if_pos (by rw [yk_pf, decide_eq_true c, decide_eq_true c2]; rfl)] at h
      exact h
    · rw [yk_pf, decide_eq_false c2, Bool.and_false, Bool.false_or]
    · rw [yk_pf, decide_eq_false c, Bool.false_and, Bool.false_or]

theorem yx_pass {post : Int32 → Prop} {so ta ra oe la ot : Int32} {aw al az av tv tl nt : Nat → Int32} {k : Nat} {u v : Int32} {q : List Nat} (hk : k < 12) (hs : yk_sk q (fun i => av (7 * k + i))) (hz : az k = nI q.length) (hq : q.length ≤ 7)
    (h : post (if yk_pg u v q.reverse = true then 1 else 0)) : wpX_passes post (so, ta, ra, oe, la, ot, aw, al, az, av, tv, tl, nt) (nI k) u v := by
  have e : nI k * 7 = nI (7 * k) := by rw [Nat.mul_comm 7]; exact pk_mul k 7
  have hf := yk_fw_sk hs
  have hlen : q.reverse.length = q.length := List.length_reverse
  unfold wpX_passes
  dsimp only
  cases he : q.reverse with
  | nil =>
    rw [he] at h hlen
    rw [List.length_nil] at hlen
    refine nm_r e ⟨1, ?_⟩
    rw [wX_passes_9]
    dsimp only
    rw [nI_clamp (show k < 2 ^ 31 by omega), hz]
    exact ⟨vp_in_nI hk (by omega), br_t (nI_le (b := 1) (by omega) (by omega)) h⟩
  | cons a l =>
    rw [he] at hf h hlen
    rw [List.length_cons] at hlen
    exact nm_r e ⟨l.length + 1, yx_ps_9 hk hq hz l a 0 hf (by omega) h _ (by omega)⟩

theorem yy_kp_3 {post : Int32 → Prop} {so ta de ke sw ev : Int32} {aa pa tr yl ys yv : Nat → Int32} {k m : Nat} {u v : Int32} (hk : k < 13) (hm : m ≤ 7) (hz : ys k = nI m) :
    ∀ l a i, yk_fw (a :: l) (fun i => yv (7 * k + i)) i → i + 1 + l.length = m → post (if yk_pf u v a l = true then 1 else 0) → ∀ f, l.length < f → wY_keptPasses_3 post (nI k) u v so ta de ke sw ev aa pa tr yl ys yv f (nI (i + 1)) := by
  intro l
  induction l with
  | nil =>
    intro a i _ hi h f hf
    obtain ⟨f, rfl⟩ : ∃ g, f = g + 1 := ⟨f - 1, by omega⟩
    rw [List.length_nil] at hi
    rw [wY_keptPasses_3]
    dsimp only
    rw [nI_clamp (show k < 2 ^ 31 by omega), hz]
    exact ⟨vp_in_nI hk (by omega), br_t (nI_le (by omega) (by omega)) h⟩
  | cons b l ih =>
    intro a i hf1 hi h f hf
    rw [List.length_cons] at hi hf
    obtain ⟨f, rfl⟩ : ∃ g, f = g + 1 := ⟨f - 1, by omega⟩
    have hn : (yk_pf u v a (b :: l) = yk_pf u v b l) → wY_keptPasses_3 post (nI k) u v so ta de ke sw ev aa pa tr yl ys yv f (nI (i + 1 + 1)) := by
      intro e
      rw [e] at h
      exact ih b (i + 1) hf1.2 (by omega) h f (by omega)
    have g1 : yv (7 * k + i) = nI a := hf1.1
    have g2 : yv (7 * k + (i + 1)) = nI b := hf1.2.1
    rw [wY_keptPasses_3]
    dsimp only
    have e1 : 7 * nI k + nI (i + 1) = nI (7 * k + i + 1) := yy_7 k (i + 1)
    rw [nI_clamp (show k < 2 ^ 31 by omega), hz, e1, nI_pred, nI_clamp (show 7 * k + i < 2 ^ 31 by omega), nI_clamp (show 7 * k + i + 1 < 2 ^ 31 by omega), g1, Nat.add_assoc, g2]
    refine ⟨vp_in_nI hk (by omega), br_f (nI_ge (by omega) (by omega)) ⟨vp_in_nI (by omega) (by omega), br_c (fun c => ⟨vp_in_nI (by omega) (by omega), br_c (fun c2 => ?_) (fun c2 => nm_r (nI_1 (i + 1)) (hn ?_))⟩) (fun c => nm_r (nI_1 (i + 1)) (hn ?_))⟩⟩
    · rw [if_pos (by rw [yk_pf, decide_eq_true c, decide_eq_true c2]; rfl)] at h
      exact h
    · rw [yk_pf, decide_eq_false c2, Bool.and_false, Bool.false_or]
    · rw [yk_pf, decide_eq_false c, Bool.false_and, Bool.false_or]

theorem yy_kp {post : Int32 → Prop} {so ta de ke sw ev : Int32} {aa pa tr yl ys yv : Nat → Int32} {k : Nat} {u v : Int32} {q : List Nat} (hk : k < 13) (hs : yk_sk q (fun i => yv (7 * k + i))) (hz : ys k = nI q.length) (hq : q.length ≤ 7)
    (h : post (if yk_pg u v q.reverse = true then 1 else 0)) : wpY_keptPasses post (so, ta, de, ke, sw, ev, aa, pa, tr, yl, ys, yv) (nI k) u v := by
  have hf := yk_fw_sk hs
  have hlen : q.reverse.length = q.length := List.length_reverse
  unfold wpY_keptPasses
  dsimp only
  cases he : q.reverse with
  | nil =>
    rw [he] at h hlen
    rw [List.length_nil] at hlen
    refine ⟨1, ?_⟩
    rw [wY_keptPasses_3]
    dsimp only
    rw [nI_clamp (show k < 2 ^ 31 by omega), hz]
    exact ⟨vp_in_nI hk (by omega), br_t (nI_le (b := 1) (by omega) (by omega)) h⟩
  | cons a l =>
    rw [he] at hf h hlen
    rw [List.length_cons] at hlen
    exact ⟨l.length + 1, yy_kp_3 hk hq hz l a 0 hf (by omega) h _ (by omega)⟩

/-- how many of the first n pass the arc -/
def yk_ct (u v : Int32) (T : Nat → List Nat) : Nat → Nat
  | 0 => 0
  | n + 1 => if yk_pg u v (T n).reverse = true then yk_ct u v T n + 1 else yk_ct u v T n

theorem yx_passing_20 {post : Int32 → SX → Prop} {so ta ra oe la ot : Int32} {aw al az av tv tl nt : Nat → Int32} {w : Nat → Nat} {A : Nat × (Nat → List Nat)} {u v : Int32} (hn : A.1 ≤ 12) (hra : ra = nI A.1) (hT : yk_tb w A al az av) (h7 : ∀ k, k < A.1 → (A.2 k).length ≤ 7)
    (h : post (nI (yk_ct u v A.2 A.1)) (so, ta, ra, oe, la, ot, aw, al, az, av, tv, tl, nt)) : ∀ d k, k + d = A.1 → ∀ f, d < f → wX_passing_20 post u v so ta ra oe la ot aw al az av tv tl nt f (nI (yk_ct u v A.2 k)) (nI k) := by
  intro d
  induction d with
  | zero =>
    intro k hk f hf
    obtain ⟨f, rfl⟩ : ∃ g, f = g + 1 := ⟨f - 1, by omega⟩
    have e : k = A.1 := by omega
    rw [wX_passing_20]
    dsimp only
    refine br_t (by rw [hra]; exact nI_le (by omega) (by omega)) ?_
    rw [e]
    exact h
  | succ d ih =>
    intro k hk f hf
    obtain ⟨f, rfl⟩ : ∃ g, f = g + 1 := ⟨f - 1, by omega⟩
    have h2 := ih (k + 1) (by omega) f (by omega)
    obtain ⟨t1, t2, t3⟩ := hT k (by omega)
    rw [wX_passing_20]
    dsimp only
    refine br_f (by rw [hra]; exact nI_ge (by omega) (by omega)) ?_
    refine yx_pass (by omega) t3 t2 (h7 k (by omega)) ?_
    rw [yk_ct] at h2
    cases hp : yk_pg u v (A.2 k).reverse with
    | true =>
      rw [hp, if_pos rfl] at h2
      exact br_f (by decide) (nm_r (nI_1 _) (nm_r (nI_1 k) h2))
    | false =>
      rw [hp, if_neg (by decide)] at h2
      exact br_t rfl (nm_r (nI_1 k) h2)

theorem yy_passing_29 {post : Int32 → SY → Prop} {so ta de ke sw ev : Int32} {aa pa tr yl ys yv : Nat → Int32} {w : Nat → Nat} {A : Nat × (Nat → List Nat)} {u v : Int32} (hn : A.1 ≤ 12) (hra : ke = nI A.1) (hT : yk_tb w A yl ys yv) (h7 : ∀ k, k < A.1 → (A.2 k).length ≤ 7)
    (h : post (nI (yk_ct u v A.2 A.1)) (so, ta, de, ke, sw, ev, aa, pa, tr, yl, ys, yv)) : ∀ d k, k + d = A.1 → ∀ f, d < f → wY_passing_29 post u v so ta de ke sw ev aa pa tr yl ys yv f (nI (yk_ct u v A.2 k)) (nI k) := by
  intro d
  induction d with
  | zero =>
    intro k hk f hf
    obtain ⟨f, rfl⟩ : ∃ g, f = g + 1 := ⟨f - 1, by omega⟩
    have e : k = A.1 := by omega
    rw [wY_passing_29]
    dsimp only
    refine br_t (by rw [hra]; exact nI_le (by omega) (by omega)) ?_
    rw [e]
    exact h
  | succ d ih =>
    intro k hk f hf
    obtain ⟨f, rfl⟩ : ∃ g, f = g + 1 := ⟨f - 1, by omega⟩
    have h2 := ih (k + 1) (by omega) f (by omega)
    obtain ⟨t1, t2, t3⟩ := hT k (by omega)
    rw [wY_passing_29]
    dsimp only
    refine br_f (by rw [hra]; exact nI_ge (by omega) (by omega)) ?_
    refine yy_kp (by omega) t3 t2 (h7 k (by omega)) ?_
    rw [yk_ct] at h2
    cases hp : yk_pg u v (A.2 k).reverse with
    | true =>
      rw [hp, if_pos rfl] at h2
      exact br_f (by decide) (nm_r (nI_1 _) (nm_r (nI_1 k) h2))
    | false =>
      rw [hp, if_neg (by decide)] at h2
      exact br_t rfl (nm_r (nI_1 k) h2)

/-- two arrays that spell the same trail agree on it -/
theorem yk_sk_eq : ∀ {p : List Nat} {g g' : Nat → Int32}, yk_sk p g → yk_sk p g' → ∀ i, i < p.length → g i = g' i := by
  intro p
  induction p with
  | nil => intro g g' _ _ i hi; exact absurd hi (Nat.not_lt_zero i)
  | cons v r ih =>
    intro g g' h h' i hi
    rw [List.length_cons] at hi
    by_cases e : i = r.length
    · rw [e]; exact h.1.trans h'.1.symm
    · exact ih h.2 h'.2 i (by omega)
end
section
/-! The relation and what is owed. -/
def yk_Rel (u : SX) (v : SY) : Prop := ∃ (w : Nat → Nat) (a : Nat → Int32) (s t : Nat), (∀ c, a c = nI (w c)) ∧ (∀ c, w c ≤ 50) ∧ s < 7 ∧ t < 7 ∧ s ≠ t ∧ u.1 = nI s ∧ u.2.1 = nI t ∧ u.2.2.2.2.2.2.1 = a ∧ v.1 = nI s ∧ v.2.1 = nI t ∧ v.2.2.2.2.2.2.1 = a
def i_Rel (k : Nat) (u : SX) (v : SY) : Prop := yk_Rel u v
theorem i_up {k : Nat} {u : SX} {v : SY} (h : i_Rel k u v) : i_Rel (k + 4) u v := h
theorem i_vc0 : wpX_init (fun u => wpY_init (fun v => i_Rel 0 u v)) :=
  ⟨fun _ => 0, fun _ => 0, 0, 6, fun _ => rfl, fun _ => Nat.zero_le 50, by omega, by omega, by omega, rfl, rfl, rfl, rfl, rfl, rfl⟩

theorem yk_rel_of {w : Nat → Nat} {a : Nat → Int32} {s t : Nat} {x y : Int32} {p p' : List Nat} {K K' : List (List Nat)} {u : SX} {v : SY} (ha : ∀ c, a c = nI (w c)) (hw : ∀ c, w c ≤ 50) (hs : s < 7) (ht : t < 7) (hst : s ≠ t)
    (hu : yx_J w a s t p K u) (hv : yy_J w a s t x y p' K' v) : yk_Rel u v := by
  obtain ⟨so, ta, ra, oe, la, ot, aw, al, az, av, tv, tl, nt⟩ := u
  obtain ⟨so', ta', de, ke, sw, ev, aa, pa, tr, yl, ys, yv⟩ := v
  exact ⟨w, a, s, t, ha, hw, hs, ht, hst, hu.1, hu.2.1, hu.2.2.2.2.2.2.1, hv.1, hv.2.1, hv.2.2.2.2.2.2.1⟩

theorem yk_f1 : ∀ c, c < 49 → (nI c = -1 ↔ c = 49) := fun c hc => ⟨fun z => absurd z (yk_n1 (by omega)), fun z => by omega⟩

theorem yk_pr (u v : Int32) : (∃ i j, i < 7 ∧ j < 7 ∧ u = nI i ∧ v = nI j) ∨ (u < 0 ∨ (7 ≤ u ∧ ¬ u < 0)) ∨ (∃ i, i < 7 ∧ u = nI i ∧ (v < 0 ∨ (7 ≤ v ∧ ¬ v < 0))) := by
  have hb : ∀ x : Int32, x < 0 ∨ (7 ≤ x ∧ ¬ x < 0) ∨ ∃ j : Nat, j < 7 ∧ x = nI j := by
    intro x
    by_cases h : x < 0
    · exact Or.inl h
    · rcases pk_ix x (n := 7) (by omega) with c | c | c
      · exact absurd c h
      · exact Or.inr (Or.inl ⟨c, h⟩)
      · exact Or.inr (Or.inr c)
  rcases hb u with c | c | ⟨i, hi, ei⟩
  · exact Or.inr (Or.inl (Or.inl c))
  · exact Or.inr (Or.inl (Or.inr c))
  · rcases hb v with c | c | ⟨j, hj, ej⟩
    · exact Or.inr (Or.inr ⟨i, hi, ei, Or.inl c⟩)
    · exact Or.inr (Or.inr ⟨i, hi, ei, Or.inr c⟩)
    · exact Or.inl ⟨i, j, hi, hj, ei, ej⟩
theorem yx_pair_ok {post : Int32 → Prop} {i j : Nat} (hi : i < 7) (hj : j < 7) (h : post 1) : wpX_isPair post (nI i) (nI j) :=
  br_f (nI_pos (by omega)) (br_f (nI_ge (b := 7) hi (by omega)) (br_f (nI_pos (by omega)) (br_f (nI_ge (b := 7) hj (by omega)) h)))
theorem yx_pair_bad {post : Int32 → Prop} {u v : Int32} (hb : (u < 0 ∨ (7 ≤ u ∧ ¬ u < 0)) ∨ (∃ i, i < 7 ∧ u = nI i ∧ (v < 0 ∨ (7 ≤ v ∧ ¬ v < 0)))) (h : post 0) : wpX_isPair post u v := by
  unfold wpX_isPair
  rcases hb with (c | c) | ⟨i, hi, rfl, c | c⟩
  · exact br_t c h
  · exact br_f c.2 (br_t c.1 h)
  · exact br_f (nI_pos (by omega)) (br_f (nI_ge (b := 7) hi (by omega)) (br_t c h))
  · exact br_f (nI_pos (by omega)) (br_f (nI_ge (b := 7) hi (by omega)) (br_f c.2 (br_t c.1 h)))
theorem yy_ver_ok {post : Int32 → Prop} {so ta de ke sw ev : Int32} {aa pa tr yl ys yv : Nat → Int32} {i : Nat} (hi : i < 7) (h : post 1) : wpY_isVertex post (so, ta, de, ke, sw, ev, aa, pa, tr, yl, ys, yv) (nI i) :=
  br_f (nI_pos (by omega)) (br_f (nI_nlt (a := 6) (by omega) (by omega)) h)
theorem yk_67 {x : Int32} (h : 7 ≤ x) : 6 < x := by
  have h1 : (7 : Int32).toInt ≤ x.toInt := Int32.le_iff_toInt_le.mp h
  refine Int32.lt_iff_toInt_lt.mpr ?_
  have e7 : (7 : Int32).toInt = 7 := by decide
  have e6 : (6 : Int32).toInt = 6 := by decide
  omega
theorem yy_ver_bad {post : Int32 → Prop} {so ta de ke sw ev : Int32} {aa pa tr yl ys yv : Nat → Int32} {x : Int32} (c : x < 0 ∨ (7 ≤ x ∧ ¬ x < 0)) (h : post 0) : wpY_isVertex post (so, ta, de, ke, sw, ev, aa, pa, tr, yl, ys, yv) x := by
  unfold wpY_isVertex
  dsimp only
  rcases c with c | c
  · exact br_t c h
  · exact br_f c.2 (br_t (yk_67 c.1) h)
theorem yy_two_bad {A B : Prop} {so ta de ke sw ev : Int32} {aa pa tr yl ys yv : Nat → Int32} {u v : Int32} (hb : (u < 0 ∨ (7 ≤ u ∧ ¬ u < 0)) ∨ (∃ i, i < 7 ∧ u = nI i ∧ (v < 0 ∨ (7 ≤ v ∧ ¬ v < 0)))) (a : A) :
    wpY_isVertex (fun r => (r = 0 → A) ∧ (¬ r = 0 → wpY_isVertex (fun r => (r = 0 → A) ∧ (¬ r = 0 → B)) (so, ta, de, ke, sw, ev, aa, pa, tr, yl, ys, yv) v)) (so, ta, de, ke, sw, ev, aa, pa, tr, yl, ys, yv) u := by
  rcases hb with c | ⟨i, hi, rfl, c⟩
  · exact yy_ver_bad c (br_t rfl a)
  · exact yy_ver_ok hi (br_f (by decide) (yy_ver_bad c (br_t rfl a)))
theorem yy_two_ok {A B : Prop} {so ta de ke sw ev : Int32} {aa pa tr yl ys yv : Nat → Int32} {i j : Nat} (hi : i < 7) (hj : j < 7) (b : B) :
    wpY_isVertex (fun r => (r = 0 → A) ∧ (¬ r = 0 → wpY_isVertex (fun r => (r = 0 → A) ∧ (¬ r = 0 → B)) (so, ta, de, ke, sw, ev, aa, pa, tr, yl, ys, yv) (nI j))) (so, ta, de, ke, sw, ev, aa, pa, tr, yl, ys, yv) (nI i) :=
  yy_ver_ok hi (br_f (by decide) (yy_ver_ok hj (br_f (by decide) b)))
theorem yx_7 (i j : Nat) : nI i * 7 + nI j = nI (7 * i + j) := by
  rw [show nI i * (7 : Int32) = nI (i * 7) from pk_mul i 7, nI_add, Nat.mul_comm]

theorem i_vc_arc {k : Nat} {u : SX} {v : SY} (I : i_Rel k u v) (hk : k + 4 ≤ 2048) (v1 : Int32) (v2 : Int32) (v3 : Int32) : wpX_arc (fun r u' => wpY_arc (fun r' v' => r' = r ∧ i_Rel (k + 4) u' v') v v1 v2 v3) u v1 v2 v3 := by
  obtain ⟨so, ta, ra, oe, la, ot, aw, al, az, av, tv, tl, nt⟩ := u
  obtain ⟨so', ta', de, ke, sw, ev, aa, pa, tr, yl, ys, yv⟩ := v
  unfold wpX_arc wpY_arc
  dsimp only
  rcases yk_pr v1 v2 with ⟨i, j, hi, hj, rfl, rfl⟩ | hb
  · refine yx_pair_ok hi hj (br_f (by decide) ?_)
    by_cases e : nI i = nI j
    · exact br_t e (yy_two_ok hi hj (br_t e ⟨rfl, I⟩))
    · by_cases h0 : v3 < 0
      · exact br_f e (br_t h0 (yy_two_ok hi hj (br_f e (br_t h0 ⟨rfl, I⟩))))
      · by_cases h5 : v3 ≤ 50
        · obtain ⟨m, hm, rfl⟩ := nI_of2 (M := 50) (n := 50) (by decide) h0 h5
          rw [yx_7, yy_7, nI_clamp (show 7 * i + j < 2 ^ 31 by omega)]
          have hin : vp_in (nI (7 * i + j)) 49 := vp_in_nI (by omega) (by omega)
          obtain ⟨w, a, s, t, ha, hw, hs, ht, hst, g1, g2, g3, g4, g5, g6⟩ := I
          refine br_f e (br_f h0 (br_t h5 ⟨hin, nm_e (yy_two_ok hi hj (br_f e (br_f h0 (br_t h5 ⟨hin, nm_e ⟨rfl, ?_⟩⟩))))⟩))
          refine ⟨fun c => if c = 7 * i + j then m else w c, upd a (7 * i + j) (nI m), s, t, ?_, ?_, hs, ht, hst, g1, g2, ?_, g4, g5, ?_⟩
          · intro c
            dsimp only
            by_cases h : c = 7 * i + j
            · rw [h, pk_us, if_pos rfl]
            · rw [pk_un h, if_neg h]; exact ha c
          · intro c
            dsimp only
            split
            · exact hm
            · exact hw c
          · exact congrArg (fun z => upd z (7 * i + j) (nI m)) g3
          · exact congrArg (fun z => upd z (7 * i + j) (nI m)) g6
        · exact br_f e (br_f h0 (br_f h5 (yy_two_ok hi hj (br_f e (br_f h0 (br_f h5 ⟨rfl, I⟩))))))
  · exact yx_pair_bad hb (br_t rfl (yy_two_bad hb ⟨rfl, I⟩))

theorem i_vc_ends {k : Nat} {u : SX} {v : SY} (I : i_Rel k u v) (hk : k + 4 ≤ 2048) (v1 : Int32) (v2 : Int32) : wpX_ends (fun r u' => wpY_ends (fun r' v' => r' = r ∧ i_Rel (k + 4) u' v') v v1 v2) u v1 v2 := by
  obtain ⟨so, ta, ra, oe, la, ot, aw, al, az, av, tv, tl, nt⟩ := u
  obtain ⟨so', ta', de, ke, sw, ev, aa, pa, tr, yl, ys, yv⟩ := v
  unfold wpX_ends wpY_ends
  dsimp only
  rcases yk_pr v1 v2 with ⟨i, j, hi, hj, rfl, rfl⟩ | hb
  · refine yx_pair_ok hi hj (br_f (by decide) ?_)
    by_cases e : nI i = nI j
    · exact br_t e (yy_two_ok hi hj (br_t e ⟨rfl, I⟩))
    · obtain ⟨w, a, s, t, ha, hw, hs, ht, hst, g1, g2, g3, g4, g5, g6⟩ := I
      exact br_f e (yy_two_ok hi hj (br_f e ⟨rfl, w, a, i, j, ha, hw, hi, hj, fun z => e (congrArg nI z), rfl, rfl, g3, rfl, rfl, g6⟩))
  · exact yx_pair_bad hb (br_t rfl (yy_two_bad hb ⟨rfl, I⟩))

theorem i_vc_weight {k : Nat} {u : SX} {v : SY} (I : i_Rel k u v) (hk : k + 4 ≤ 2048) (v1 : Int32) (v2 : Int32) : wpX_weight (fun r => wpY_weight (fun r' => r' = r ∧ i_Rel (k + 4) u v) v v1 v2) u v1 v2 := by
  obtain ⟨so, ta, ra, oe, la, ot, aw, al, az, av, tv, tl, nt⟩ := u
  obtain ⟨so', ta', de, ke, sw, ev, aa, pa, tr, yl, ys, yv⟩ := v
  unfold wpX_weight wpY_weight
  dsimp only
  rcases yk_pr v1 v2 with ⟨i, j, hi, hj, rfl, rfl⟩ | hb
  · rw [yx_7, yy_7]
    have hin : vp_in (nI (7 * i + j)) 49 := vp_in_nI (by omega) (by omega)
    have I2 := I
    obtain ⟨w, a, s, t, ha, hw, hs, ht, hst, g1, g2, g3, g4, g5, g6⟩ := I2
    exact yx_pair_ok hi hj (br_f (by decide) ⟨hin, yy_two_ok hi hj ⟨hin, congrFun (g6.trans g3.symm) _, I⟩⟩)
  · exact yx_pair_bad hb (br_t rfl (yy_two_bad hb ⟨rfl, I⟩))

theorem yk_okf {w : Nat → Nat} {i j : Nat} (hi : i < 7) (hj : j < 7) : ∀ x y, x < 7 → y < 7 → yk_ok w (7 * i + j) x y = (yk_ok w 49 x y && !(decide (nI x = nI i) && decide (nI y = nI j))) := by
  intro x y hx hy
  unfold yk_ok
  rw [decide_eq_true (show 7 * x + y ≠ 49 by omega), Bool.and_true]
  congr 1
  by_cases h : x = i ∧ y = j
  · rw [h.1, h.2]
    simp
  · have h1 : 7 * x + y ≠ 7 * i + j := fun z => h ⟨by omega, by omega⟩
    rw [decide_eq_true h1]
    by_cases hx2 : nI x = nI i
    · by_cases hy2 : nI y = nI j
      · exact absurd ⟨(nI_eq (by omega) (by omega)).mp hx2, (nI_eq (by omega) (by omega)).mp hy2⟩ h
      · rw [decide_eq_false hy2, Bool.and_false]; rfl
    · rw [decide_eq_false hx2, Bool.false_and]; rfl

theorem i_vc_paths {k : Nat} {u : SX} {v : SY} (I : i_Rel k u v) (hk : k + 4 ≤ 2048) : wpX_paths (fun r u' => wpY_paths (fun r' v' => r' = r ∧ i_Rel (k + 4) u' v') v) u := by
  obtain ⟨so, ta, ra, oe, la, ot, aw, al, az, av, tv, tl, nt⟩ := u
  obtain ⟨so', ta', de, ke, sw, ev, aa, pa, tr, yl, ys, yv⟩ := v
  obtain ⟨w, a, s, t, ha, hw, hs, ht, hst, g1, g2, g3, g4, g5, g6⟩ := I
  unfold wpX_paths wpY_paths
  dsimp only
  refine yx_rank (fb := 49) ha hw hs ht hst yk_f1 g1 g2 g3 (fun u' hu => ?_)
  obtain ⟨xo, xt, ra', oe', la', ot', aw', al', az', av', tv', tl', nt'⟩ := u'
  dsimp only
  have hu' := hu
  obtain ⟨_, _, x3, x4, _, _, _, x8, _, _, x11⟩ := hu'
  have hiv := yk_iv_ac w (yk_ds (yk_ok w 49) t 7 [s])
  have h12 := hiv.1
  refine yy_search ha hw hs ht hst g4 g5 g6 (fun v' hv => ?_)
  obtain ⟨yo, yt, de', ke', sw', ev', aa', pa', tr', yl', ys', yv'⟩ := v'
  dsimp only
  have hv' := hv
  obtain ⟨_, _, _, y4, y5, y6, _, _, y9, _⟩ := hv'
  exact ⟨y4.trans x3.symm, yk_rel_of ha hw hs ht hst hu hv⟩

theorem i_vc_unavoidable {k : Nat} {u : SX} {v : SY} (I : i_Rel k u v) (hk : k + 4 ≤ 2048) : wpX_unavoidable (fun r u' => wpY_unavoidable (fun r' v' => r' = r ∧ i_Rel (k + 4) u' v') v) u := by
  obtain ⟨so, ta, ra, oe, la, ot, aw, al, az, av, tv, tl, nt⟩ := u
  obtain ⟨so', ta', de, ke, sw, ev, aa, pa, tr, yl, ys, yv⟩ := v
  obtain ⟨w, a, s, t, ha, hw, hs, ht, hst, g1, g2, g3, g4, g5, g6⟩ := I
  unfold wpX_unavoidable wpY_unavoidable
  dsimp only
  refine yx_rank (fb := 49) ha hw hs ht hst yk_f1 g1 g2 g3 (fun u' hu => ?_)
  obtain ⟨xo, xt, ra', oe', la', ot', aw', al', az', av', tv', tl', nt'⟩ := u'
  dsimp only
  have hu' := hu
  obtain ⟨_, _, x3, x4, _, _, _, x8, _, _, x11⟩ := hu'
  have hiv := yk_iv_ac w (yk_ds (yk_ok w 49) t 7 [s])
  have h12 := hiv.1
  refine yy_search ha hw hs ht hst g4 g5 g6 (fun v' hv => ?_)
  obtain ⟨yo, yt, de', ke', sw', ev', aa', pa', tr', yl', ys', yv'⟩ := v'
  dsimp only
  have hv' := hv
  obtain ⟨_, _, _, y4, y5, y6, _, _, y9, _⟩ := hv'
  exact ⟨y6.trans x4.symm, yk_rel_of ha hw hs ht hst hu hv⟩

theorem i_vc_length {k : Nat} {u : SX} {v : SY} (I : i_Rel k u v) (hk : k + 4 ≤ 2048) (v1 : Int32) : wpX_length (fun r u' => wpY_length (fun r' v' => r' = r ∧ i_Rel (k + 4) u' v') v v1) u v1 := by
  obtain ⟨so, ta, ra, oe, la, ot, aw, al, az, av, tv, tl, nt⟩ := u
  obtain ⟨so', ta', de, ke, sw, ev, aa, pa, tr, yl, ys, yv⟩ := v
  obtain ⟨w, a, s, t, ha, hw, hs, ht, hst, g1, g2, g3, g4, g5, g6⟩ := I
  unfold wpX_length wpY_length
  dsimp only
  refine yx_rank (fb := 49) ha hw hs ht hst yk_f1 g1 g2 g3 (fun u' hu => ?_)
  obtain ⟨xo, xt, ra', oe', la', ot', aw', al', az', av', tv', tl', nt'⟩ := u'
  dsimp only
  have hu' := hu
  obtain ⟨_, _, x3, x4, _, _, _, x8, _, _, x11⟩ := hu'
  have hiv := yk_iv_ac w (yk_ds (yk_ok w 49) t 7 [s])
  have h12 := hiv.1
  unfold wpX_isRanked
  dsimp only
  subst x3
  rcases pk_ix v1 (n := (yk_ac w (yk_ds (yk_ok w 49) t 7 [s])).1) (by omega) with c | c | ⟨j, hj, rfl⟩
  · refine br_t c (br_t rfl ?_)
    refine yy_search ha hw hs ht hst g4 g5 g6 (fun v' hv => ?_)
    obtain ⟨yo, yt, de', ke', sw', ev', aa', pa', tr', yl', ys', yv'⟩ := v'
    dsimp only
    have hv' := hv
    obtain ⟨_, _, _, y4, y5, y6, _, _, y9, _⟩ := hv'
    exact br_t c ⟨rfl, yk_rel_of ha hw hs ht hst hu hv⟩
  · have c0 : ¬ v1 < 0 := fun z => nI_pos (by omega) (Int32.lt_of_le_of_lt c z)
    refine br_f c0 (br_t c (br_t rfl ?_))
    refine yy_search ha hw hs ht hst g4 g5 g6 (fun v' hv => ?_)
    obtain ⟨yo, yt, de', ke', sw', ev', aa', pa', tr', yl', ys', yv'⟩ := v'
    dsimp only
    have hv' := hv
    obtain ⟨_, _, _, y4, y5, y6, _, _, y9, _⟩ := hv'
    subst y4
    exact br_f c0 (br_t c ⟨rfl, yk_rel_of ha hw hs ht hst hu hv⟩)
  · refine br_f (nI_pos (by omega)) (br_f (nI_ge hj (by omega)) (br_f (by decide) ⟨vp_in_nI (by omega) (by omega), ?_⟩))
    refine yy_search ha hw hs ht hst g4 g5 g6 (fun v' hv => ?_)
    obtain ⟨yo, yt, de', ke', sw', ev', aa', pa', tr', yl', ys', yv'⟩ := v'
    dsimp only
    have hv' := hv
    obtain ⟨_, _, _, y4, y5, y6, _, _, y9, _⟩ := hv'
    subst y4
    rw [nI_clamp (show j < 2 ^ 31 by omega)]
    exact br_f (nI_pos (by omega)) (br_f (nI_ge hj (by omega)) ⟨vp_in_nI (by omega) (by omega), (y9 j hj).1.trans (x8 j hj).1.symm, yk_rel_of ha hw hs ht hst hu hv⟩)

theorem i_vc_size {k : Nat} {u : SX} {v : SY} (I : i_Rel k u v) (hk : k + 4 ≤ 2048) (v1 : Int32) : wpX_size (fun r u' => wpY_size (fun r' v' => r' = r ∧ i_Rel (k + 4) u' v') v v1) u v1 := by
  obtain ⟨so, ta, ra, oe, la, ot, aw, al, az, av, tv, tl, nt⟩ := u
  obtain ⟨so', ta', de, ke, sw, ev, aa, pa, tr, yl, ys, yv⟩ := v
  obtain ⟨w, a, s, t, ha, hw, hs, ht, hst, g1, g2, g3, g4, g5, g6⟩ := I
  unfold wpX_size wpY_size
  dsimp only
  refine yx_rank (fb := 49) ha hw hs ht hst yk_f1 g1 g2 g3 (fun u' hu => ?_)
  obtain ⟨xo, xt, ra', oe', la', ot', aw', al', az', av', tv', tl', nt'⟩ := u'
  dsimp only
  have hu' := hu
  obtain ⟨_, _, x3, x4, _, _, _, x8, _, _, x11⟩ := hu'
  have hiv := yk_iv_ac w (yk_ds (yk_ok w 49) t 7 [s])
  have h12 := hiv.1
  unfold wpX_isRanked
  dsimp only
  subst x3
  rcases pk_ix v1 (n := (yk_ac w (yk_ds (yk_ok w 49) t 7 [s])).1) (by omega) with c | c | ⟨j, hj, rfl⟩
  · refine br_t c (br_t rfl ?_)
    refine yy_search ha hw hs ht hst g4 g5 g6 (fun v' hv => ?_)
    obtain ⟨yo, yt, de', ke', sw', ev', aa', pa', tr', yl', ys', yv'⟩ := v'
    dsimp only
    have hv' := hv
    obtain ⟨_, _, _, y4, y5, y6, _, _, y9, _⟩ := hv'
    exact br_t c ⟨rfl, yk_rel_of ha hw hs ht hst hu hv⟩
  · have c0 : ¬ v1 < 0 := fun z => nI_pos (by omega) (Int32.lt_of_le_of_lt c z)
    refine br_f c0 (br_t c (br_t rfl ?_))
    refine yy_search ha hw hs ht hst g4 g5 g6 (fun v' hv => ?_)
    obtain ⟨yo, yt, de', ke', sw', ev', aa', pa', tr', yl', ys', yv'⟩ := v'
    dsimp only
    have hv' := hv
    obtain ⟨_, _, _, y4, y5, y6, _, _, y9, _⟩ := hv'
    subst y4
    exact br_f c0 (br_t c ⟨rfl, yk_rel_of ha hw hs ht hst hu hv⟩)
  · refine br_f (nI_pos (by omega)) (br_f (nI_ge hj (by omega)) (br_f (by decide) ⟨vp_in_nI (by omega) (by omega), ?_⟩))
    refine yy_search ha hw hs ht hst g4 g5 g6 (fun v' hv => ?_)
    obtain ⟨yo, yt, de', ke', sw', ev', aa', pa', tr', yl', ys', yv'⟩ := v'
    dsimp only
    have hv' := hv
    obtain ⟨_, _, _, y4, y5, y6, _, _, y9, _⟩ := hv'
    subst y4
    rw [nI_clamp (show j < 2 ^ 31 by omega)]
    exact br_f (nI_pos (by omega)) (br_f (nI_ge hj (by omega)) ⟨vp_in_nI (by omega) (by omega), (y9 j hj).2.1.trans (x8 j hj).2.1.symm, yk_rel_of ha hw hs ht hst hu hv⟩)

theorem i_vc_vertex {k : Nat} {u : SX} {v : SY} (I : i_Rel k u v) (hk : k + 4 ≤ 2048) (v1 : Int32) (v2 : Int32) : wpX_vertex (fun r u' => wpY_vertex (fun r' v' => r' = r ∧ i_Rel (k + 4) u' v') v v1 v2) u v1 v2 := by
  obtain ⟨so, ta, ra, oe, la, ot, aw, al, az, av, tv, tl, nt⟩ := u
  obtain ⟨so', ta', de, ke, sw, ev, aa, pa, tr, yl, ys, yv⟩ := v
  obtain ⟨w, a, s, t, ha, hw, hs, ht, hst, g1, g2, g3, g4, g5, g6⟩ := I
  unfold wpX_vertex wpY_vertex
  dsimp only
  refine yx_rank (fb := 49) ha hw hs ht hst yk_f1 g1 g2 g3 (fun u' hu => ?_)
  obtain ⟨xo, xt, ra', oe', la', ot', aw', al', az', av', tv', tl', nt'⟩ := u'
  dsimp only
  have hu' := hu
  obtain ⟨_, _, x3, x4, _, _, _, x8, _, _, x11⟩ := hu'
  have hiv := yk_iv_ac w (yk_ds (yk_ok w 49) t 7 [s])
  have h12 := hiv.1
  unfold wpX_isRanked
  dsimp only
  subst x3
  rcases pk_ix v1 (n := (yk_ac w (yk_ds (yk_ok w 49) t 7 [s])).1) (by omega) with c | c | ⟨j, hj, rfl⟩
  · refine br_t c (br_t rfl ?_)
    refine yy_search ha hw hs ht hst g4 g5 g6 (fun v' hv => ?_)
    obtain ⟨yo, yt, de', ke', sw', ev', aa', pa', tr', yl', ys', yv'⟩ := v'
    dsimp only
    have hv' := hv
    obtain ⟨_, _, _, y4, y5, y6, _, _, y9, _⟩ := hv'
    exact br_t c ⟨rfl, yk_rel_of ha hw hs ht hst hu hv⟩
  · have c0 : ¬ v1 < 0 := fun z => nI_pos (by omega) (Int32.lt_of_le_of_lt c z)
    refine br_f c0 (br_t c (br_t rfl ?_))
    refine yy_search ha hw hs ht hst g4 g5 g6 (fun v' hv => ?_)
    obtain ⟨yo, yt, de', ke', sw', ev', aa', pa', tr', yl', ys', yv'⟩ := v'
    dsimp only
    have hv' := hv
    obtain ⟨_, _, _, y4, y5, y6, _, _, y9, _⟩ := hv'
    subst y4
    exact br_f c0 (br_t c ⟨rfl, yk_rel_of ha hw hs ht hst hu hv⟩)
  · obtain ⟨t1, t2, t3⟩ := x8 j hj
    have hq7 := x11 _ (hiv.2.1 j hj)
    have i12 : vp_in (nI j) 12 := vp_in_nI (by omega) (by omega)
    have i13 : vp_in (nI j) 13 := vp_in_nI (by omega) (by omega)
    rw [nI_clamp (show j < 2 ^ 31 by omega), t2]
    refine br_f (nI_pos (by omega)) (br_f (nI_ge hj (by omega)) (br_f (by decide) ?_))
    rcases pk_ix v2 (n := ((yk_ac w (yk_ds (yk_ok w 49) t 7 [s])).2 j).length) (by omega) with c | c | ⟨i, hi, rfl⟩
    · refine br_t c ?_
      refine yy_search ha hw hs ht hst g4 g5 g6 (fun v' hv => ?_)
      obtain ⟨yo, yt, de', ke', sw', ev', aa', pa', tr', yl', ys', yv'⟩ := v'
      dsimp only
      have hv' := hv
      obtain ⟨_, _, _, y4, y5, y6, _, _, y9, _⟩ := hv'
      subst y4
      exact br_f (nI_pos (by omega)) (br_f (nI_ge hj (by omega)) (br_t c ⟨rfl, yk_rel_of ha hw hs ht hst hu hv⟩))
    · have c0 : ¬ v2 < 0 := fun z => nI_pos (by omega) (Int32.lt_of_le_of_lt c z)
      refine br_f c0 ⟨i12, br_f (Int32.not_lt.mpr c) ?_⟩
      refine yy_search ha hw hs ht hst g4 g5 g6 (fun v' hv => ?_)
      obtain ⟨yo, yt, de', ke', sw', ev', aa', pa', tr', yl', ys', yv'⟩ := v'
      dsimp only
      have hv' := hv
      obtain ⟨_, _, _, y4, y5, y6, _, _, y9, _⟩ := hv'
      subst y4
      rw [(y9 j hj).2.1]
      exact br_f (nI_pos (by omega)) (br_f (nI_ge hj (by omega)) (br_f c0 ⟨i13, br_t c ⟨rfl, yk_rel_of ha hw hs ht hst hu hv⟩⟩))
    · rw [yx_7]
      refine br_f (nI_pos (by omega)) ⟨i12, br_t (nI_lt hi (by omega)) ⟨vp_in_nI (by omega) (by omega), ?_⟩⟩
      refine yy_search ha hw hs ht hst g4 g5 g6 (fun v' hv => ?_)
      obtain ⟨yo, yt, de', ke', sw', ev', aa', pa', tr', yl', ys', yv'⟩ := v'
      dsimp only
      have hv' := hv
      obtain ⟨_, _, _, y4, y5, y6, _, _, y9, _⟩ := hv'
      subst y4
      rw [yy_7, nI_clamp (show 7 * j + i < 2 ^ 31 by omega), (y9 j hj).2.1]
      exact br_f (nI_pos (by omega)) (br_f (nI_ge hj (by omega)) (br_f (nI_pos (by omega)) ⟨i13, br_f (nI_ge hi (by omega)) ⟨vp_in_nI (by omega) (by omega), yk_sk_eq (y9 j hj).2.2 t3 i hi, yk_rel_of ha hw hs ht hst hu hv⟩⟩))

theorem i_vc_passing {k : Nat} {u : SX} {v : SY} (I : i_Rel k u v) (hk : k + 4 ≤ 2048) (v1 : Int32) (v2 : Int32) : wpX_passing (fun r u' => wpY_passing (fun r' v' => r' = r ∧ i_Rel (k + 4) u' v') v v1 v2) u v1 v2 := by
  have I2 := I
  obtain ⟨so, ta, ra, oe, la, ot, aw, al, az, av, tv, tl, nt⟩ := u
  obtain ⟨so', ta', de, ke, sw, ev, aa, pa, tr, yl, ys, yv⟩ := v
  obtain ⟨w, a, s, t, ha, hw, hs, ht, hst, g1, g2, g3, g4, g5, g6⟩ := I
  unfold wpX_passing wpY_passing
  dsimp only
  rcases yk_pr v1 v2 with ⟨i, j, hi, hj, rfl, rfl⟩ | hb
  rotate_left
  · exact yx_pair_bad hb (br_t rfl (yy_two_bad hb ⟨rfl, I2⟩))
  refine yx_pair_ok hi hj (br_f (by decide) ?_)
  refine yx_rank (fb := 49) ha hw hs ht hst yk_f1 g1 g2 g3 (fun u' hu => ?_)
  obtain ⟨xo, xt, ra', oe', la', ot', aw', al', az', av', tv', tl', nt'⟩ := u'
  dsimp only
  have hu' := hu
  obtain ⟨_, _, x3, x4, _, _, _, x8, _, _, x11⟩ := hu'
  have hiv := yk_iv_ac w (yk_ds (yk_ok w 49) t 7 [s])
  have h12 := hiv.1
  have h7 := fun k hk => x11 _ (hiv.2.1 k hk)
  refine ⟨(yk_ac w (yk_ds (yk_ok w 49) t 7 [s])).1 + 1, yx_passing_20 (w := w) (A := yk_ac w (yk_ds (yk_ok w 49) t 7 [s])) h12 x3 x8 h7 ?_ (yk_ac w (yk_ds (yk_ok w 49) t 7 [s])).1 0 (by omega) _ (by omega)⟩
  refine yy_two_ok hi hj ?_
  refine yy_search ha hw hs ht hst g4 g5 g6 (fun v' hv => ?_)
  obtain ⟨yo, yt, de', ke', sw', ev', aa', pa', tr', yl', ys', yv'⟩ := v'
  dsimp only
  have hv' := hv
  obtain ⟨_, _, _, y4, y5, y6, _, _, y9, _⟩ := hv'
  exact ⟨(yk_ac w (yk_ds (yk_ok w 49) t 7 [s])).1 + 1, yy_passing_29 (w := w) (A := yk_ac w (yk_ds (yk_ok w 49) t 7 [s])) h12 y4 y9 h7 ⟨rfl, yk_rel_of ha hw hs ht hst hu hv⟩ (yk_ac w (yk_ds (yk_ok w 49) t 7 [s])).1 0 (by omega) _ (by omega)⟩

theorem i_vc_avoiding {k : Nat} {u : SX} {v : SY} (I : i_Rel k u v) (hk : k + 4 ≤ 2048) (v1 : Int32) (v2 : Int32) : wpX_avoiding (fun r u' => wpY_avoiding (fun r' v' => r' = r ∧ i_Rel (k + 4) u' v') v v1 v2) u v1 v2 := by
  have I2 := I
  obtain ⟨so, ta, ra, oe, la, ot, aw, al, az, av, tv, tl, nt⟩ := u
  obtain ⟨so', ta', de, ke, sw, ev, aa, pa, tr, yl, ys, yv⟩ := v
  obtain ⟨w, a, s, t, ha, hw, hs, ht, hst, g1, g2, g3, g4, g5, g6⟩ := I
  unfold wpX_avoiding wpY_avoiding
  dsimp only
  rcases yk_pr v1 v2 with ⟨i, j, hi, hj, rfl, rfl⟩ | hb
  rotate_left
  · exact yx_pair_bad hb (br_t rfl (yy_two_bad hb ⟨rfl, I2⟩))
  refine yx_pair_ok hi hj (br_f (by decide) ?_)
  rw [yx_7]
  refine yx_rank (fb := 7 * i + j) ha hw hs ht hst (fun c hc => nI_eq (by omega) (by omega)) g1 g2 g3 (fun u' hu => ?_)
  obtain ⟨xo, xt, ra', oe', la', ot', aw', al', az', av', tv', tl', nt'⟩ := u'
  dsimp only
  have hu' := hu
  obtain ⟨_, _, x3, x4, _, _, _, x8, _, _, x11⟩ := hu'
  have hiv := yk_iv_ac w (yk_ds (yk_ok w (7 * i + j)) t 7 [s])
  have h12 := hiv.1
  have hfil := yk_ds_fil (okX := yk_ok w (7 * i + j)) (okY := yk_ok w 49) (t := t) (u := nI i) (v := nI j) (yk_okf hi hj) 7 [s] (by simp) hs rfl
  unfold wpX_isRanked
  dsimp only
  subst x3
  rcases Nat.eq_zero_or_pos (yk_ac w (yk_ds (yk_ok w (7 * i + j)) t 7 [s])).1 with h0 | h0
  · refine br_f (by decide) (br_t (by rw [h0]; decide) (br_t rfl (yy_two_ok hi hj ?_)))
    refine yy_search ha hw hs ht hst g4 g5 g6 (fun v' hv => ?_)
    obtain ⟨yo, yt, de', ke', sw', ev', aa', pa', tr', yl', ys', yv'⟩ := v'
    dsimp only
    have hv' := hv
    obtain ⟨_, _, _, y4, y5, y6, _, _, y9, _⟩ := hv'
    rw [← hfil] at y5
    exact ⟨y5.trans (if_pos h0), yk_rel_of ha hw hs ht hst hu hv⟩
  · refine br_f (by decide) (br_f (nI_nle h0 (by omega)) (br_f (by decide) (yy_two_ok hi hj ?_)))
    refine yy_search ha hw hs ht hst g4 g5 g6 (fun v' hv => ?_)
    obtain ⟨yo, yt, de', ke', sw', ev', aa', pa', tr', yl', ys', yv'⟩ := v'
    dsimp only
    have hv' := hv
    obtain ⟨_, _, _, y4, y5, y6, _, _, y9, _⟩ := hv'
    rw [← hfil] at y5
    exact ⟨(y5.trans (if_neg (by omega))).trans (x8 0 h0).1.symm, yk_rel_of ha hw hs ht hst hu hv⟩
end
