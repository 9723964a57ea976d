/-! One depth-first walk for both sides, over four rules of a machine. -/
def yk_R1 {S : Type} (W : Nat → Nat → S → Prop) (J : List Nat → List (List Nat) → S → Prop) (nx : S → Nat → Int32) (B t : Nat) : Prop :=
  ∀ x r K s k, yk_vt (x :: r) → J (x :: r) K s → nx s (r.length + 1) = nI 7 → x ≠ t → k + 2 ≤ B →
    ∃ s', J r K s' ∧ (∀ i, i ≤ r.length → nx s' i = nx s i) ∧ ∀ n, W n (k + 1) s' → W (n + 1) k s
def yk_R2 {S : Type} (W : Nat → Nat → S → Prop) (J : List Nat → List (List Nat) → S → Prop) (nx : S → Nat → Int32) (B : Nat) (ok : Nat → Nat → Bool) (t : Nat) : Prop :=
  ∀ x r K s k v, yk_vt (x :: r) → J (x :: r) K s → v < 7 → nx s (r.length + 1) = nI v → x ≠ t → yk_bl ok (x :: r) v = true → k + 2 ≤ B →
    ∃ s', J (x :: r) K s' ∧ nx s' (r.length + 1) = nI (v + 1) ∧ (∀ i, i ≤ r.length → nx s' i = nx s i) ∧ ∀ n, W n (k + 1) s' → W (n + 1) k s
def yk_R3 {S : Type} (W : Nat → Nat → S → Prop) (J : List Nat → List (List Nat) → S → Prop) (nx : S → Nat → Int32) (B : Nat) (ok : Nat → Nat → Bool) (t : Nat) : Prop :=
  ∀ x r K s k v, yk_vt (v :: x :: r) → J (x :: r) K s → v < 7 → nx s (r.length + 1) = nI v → x ≠ t → yk_bl ok (x :: r) v = false → v ≠ t → k + 2 ≤ B →
    ∃ s', J (v :: x :: r) K s' ∧ nx s' (r.length + 2) = nI 0 ∧ nx s' (r.length + 1) = nI (v + 1) ∧ (∀ i, i ≤ r.length → nx s' i = nx s i) ∧ ∀ n, W n (k + 1) s' → W (n + 1) k s
def yk_R4 {S : Type} (W : Nat → Nat → S → Prop) (J : List Nat → List (List Nat) → S → Prop) (nx : S → Nat → Int32) (B : Nat) (ok : Nat → Nat → Bool) (t : Nat) : Prop :=
  ∀ x r K s k v, yk_vt (v :: x :: r) → J (x :: r) K s → v < 7 → nx s (r.length + 1) = nI v → x ≠ t → yk_bl ok (x :: r) v = false → v = t → k + 2 ≤ B → yk_pw (K ++ [v :: x :: r]) →
    ∃ s' c, c ≤ 2 ∧ J (x :: r) (K ++ [v :: x :: r]) s' ∧ nx s' (r.length + 1) = nI (v + 1) ∧ (∀ i, i ≤ r.length → nx s' i = nx s i) ∧ ∀ n, W n (k + c) s' → W (n + c) k s

theorem yk_pw_l {A B : List (List Nat)} (h : yk_pw (A ++ B)) : yk_pw A := (List.pairwise_append.mp h).1
theorem yk_bl_c {ok : Nat → Nat → Bool} {p : List Nat} {v : Nat} (h : yk_bl ok p v = false) : p.contains v = false := (Bool.or_eq_false_iff.mp h).1

theorem yk_lev {S : Type} {W : Nat → Nat → S → Prop} {J : List Nat → List (List Nat) → S → Prop} {nx : S → Nat → Int32} {B : Nat} {ok : Nat → Nat → Bool} {t : Nat}
    (r1 : yk_R1 W J nx B t) (r2 : yk_R2 W J nx B ok t) (r3 : yk_R3 W J nx B ok t) (r4 : yk_R4 W J nx B ok t)
    (g : List Nat → List (List Nat)) (C x : Nat) (r : List Nat) (hv : yk_vt (x :: r)) (hx : x ≠ t)
    (hC : ∀ v, v < 7 → (x :: r).contains v = false → 1 ≤ C)
    (hch : ∀ v, v < 7 → (x :: r).contains v = false → v ≠ t → ∀ s k K, J (v :: x :: r) K s → nx s (r.length + 2) = nI 0 → yk_pw (K ++ g (v :: x :: r)) → k + C + 1 ≤ B →
      ∃ s' c, J (x :: r) (K ++ g (v :: x :: r)) s' ∧ (∀ i, i ≤ r.length + 1 → nx s' i = nx s i) ∧ c ≤ C ∧ ∀ n, W n (k + c) s' → W (n + c) k s) :
    ∀ d, d ≤ 7 → ∀ s k K, J (x :: r) K s → nx s (r.length + 1) = nI (7 - d) → yk_pw (K ++ yk_in ok t g (x :: r) d) → k + (d + 1 + yk_cn (x :: r) d * C) + 1 ≤ B →
      ∃ s' c, J r (K ++ yk_in ok t g (x :: r) d) s' ∧ (∀ i, i ≤ r.length → nx s' i = nx s i) ∧ c ≤ d + 1 + yk_cn (x :: r) d * C ∧ ∀ n, W n (k + c) s' → W (n + c) k s := by
  intro d
  induction d with
  | zero =>
    intro _ s k K hJ hn _ hB
    obtain ⟨s', h1, h2, h3⟩ := r1 x r K s k hv hJ hn hx (by omega)
    refine ⟨s', 1, ?_, h2, by omega, h3⟩
    rw [yk_in, List.append_nil]
    exact h1
  | succ d ih =>
    intro hd s k K hJ hn hp hB
    have e1 : 7 - (d + 1) = 6 - d := by omega
    have e2 : 6 - d + 1 = 7 - d := by omega
    have hlt : 6 - d < 7 := by omega
    rw [e1] at hn
    rw [yk_in] at hp ⊢
    rw [yk_cn] at hB ⊢
    cases hb : yk_bl ok (x :: r) (6 - d) with
    | true =>
      rw [hb, if_pos rfl, List.nil_append] at hp
      rw [if_pos rfl, List.nil_append]
      have hm : yk_cn (x :: r) d * C ≤ ((if (x :: r).contains (6 - d) = true then 0 else 1) + yk_cn (x :: r) d) * C := Nat.mul_le_mul_right C (Nat.le_add_left _ _)
      obtain ⟨s1, a1, a2, a3, a4⟩ := r2 x r K s k (6 - d) hv hJ hlt hn hx hb (by omega)
      rw [e2] at a2
      obtain ⟨s', c, b1, b2, b3, b4⟩ := ih (by omega) s1 (k + 1) K a1 a2 hp (by omega)
      refine ⟨s', c + 1, b1, fun i hi => (b2 i hi).trans (a3 i hi), by omega, fun n h => ?_⟩
      have h' : W n (k + 1 + c) s' := by rw [Nat.add_assoc, Nat.add_comm 1 c]; exact h
      exact a4 (n + c) (b4 n h')
    | false =>
      have hc := yk_bl_c hb
      have hC1 := hC _ hlt hc
      rw [hb] at hp
      rw [hc] at hB ⊢
      simp only [Bool.false_eq_true, if_false] at hp hB ⊢
      rw [Nat.add_mul, Nat.one_mul] at hB ⊢
      have hvv := yk_vt_push hv hlt hc
      by_cases ht : 6 - d = t
      · rw [if_pos ht, ← List.append_assoc] at hp
        rw [if_pos ht, ← List.append_assoc]
        obtain ⟨s1, c1, a0, a1, a2, a3, a4⟩ := r4 x r K s k (6 - d) hvv hJ hlt hn hx hb ht (by omega) (yk_pw_l hp)
        rw [e2] at a2
        obtain ⟨s', c, b1, b2, b3, b4⟩ := ih (by omega) s1 (k + c1) (K ++ [(6 - d) :: x :: r]) a1 a2 hp (by omega)
        refine ⟨s', c + c1, b1, fun i hi => (b2 i hi).trans (a3 i hi), by omega, fun n h => ?_⟩
        have h' : W n (k + c1 + c) s' := by rw [Nat.add_assoc, Nat.add_comm c1 c]; exact h
        rw [← Nat.add_assoc]
        exact a4 (n + c) (b4 n h')
      · rw [if_neg ht, ← List.append_assoc] at hp
        rw [if_neg ht, ← List.append_assoc]
        obtain ⟨s1, a1, a2, a3, a4, a5⟩ := r3 x r K s k (6 - d) hvv hJ hlt hn hx hb ht (by omega)
        obtain ⟨s2, c2, b1, b2, b3, b4⟩ := hch (6 - d) hlt hc ht s1 (k + 1) K a1 a2 (yk_pw_l hp) (by omega)
        have hn2 : nx s2 (r.length + 1) = nI (7 - d) := by rw [b2 _ (Nat.le_refl _), a3, e2]
        obtain ⟨s', c, d1, d2, d3, d4⟩ := ih (by omega) s2 (k + 1 + c2) _ b1 hn2 hp (by omega)
        refine ⟨s', c + c2 + 1, d1, fun i hi => (d2 i hi).trans ((b2 i (by omega)).trans (a4 i hi)), by omega, fun n h => ?_⟩
        have h' : W n (k + 1 + c2 + c) s' := by
          have e : k + 1 + c2 + c = k + (c + c2 + 1) := by omega
          rw [e]; exact h
        have h2 := a5 (n + c + c2) (b4 (n + c) (d4 n h'))
        have e : n + (c + c2 + 1) = n + c + c2 + 1 := by omega
        rw [e]
        exact h2

theorem yk_dfs {S : Type} {W : Nat → Nat → S → Prop} {J : List Nat → List (List Nat) → S → Prop} {nx : S → Nat → Int32} {B : Nat} {ok : Nat → Nat → Bool} {t : Nat}
    (r1 : yk_R1 W J nx B t) (r2 : yk_R2 W J nx B ok t) (r3 : yk_R3 W J nx B ok t) (r4 : yk_R4 W J nx B ok t) :
    ∀ f x r, yk_vt (x :: r) → x ≠ t → yk_cn (x :: r) 7 ≤ f → ∀ s k K, J (x :: r) K s → nx s (r.length + 1) = nI 0 → yk_pw (K ++ yk_ds ok t (f + 1) (x :: r)) → k + yk_co (f + 1) + 1 ≤ B →
      ∃ s' c, J r (K ++ yk_ds ok t (f + 1) (x :: r)) s' ∧ (∀ i, i ≤ r.length → nx s' i = nx s i) ∧ c ≤ yk_co (f + 1) ∧ ∀ n, W n (k + c) s' → W (n + c) k s := by
  intro f
  induction f with
  | zero =>
    intro x r hv hx hf s k K hJ hn hp hB
    have hno : ∀ v, v < 7 → (x :: r).contains v = false → False := by
      intro v h7 hc
      have h := yk_cn_push h7 hc 7 (Nat.le_refl 7)
      rw [if_pos (by omega)] at h
      omega
    have e : yk_cn (x :: r) 7 = 0 := by omega
    have h := yk_lev r1 r2 r3 r4 (yk_ds ok t 0) 0 x r hv hx (fun v h7 hc => (hno v h7 hc).elim) (fun v h7 hc => (hno v h7 hc).elim) 7 (Nat.le_refl 7) s k K hJ hn hp
    rw [e] at h
    exact h hB
  | succ f ih =>
    intro x r hv hx hf s k K hJ hn hp hB
    have hm : yk_cn (x :: r) 7 * yk_co (f + 1) ≤ (f + 1) * yk_co (f + 1) := Nat.mul_le_mul_right _ hf
    have e8 : yk_co (f + 1 + 1) = 8 + (f + 1) * yk_co (f + 1) := rfl
    have hco : 1 ≤ yk_co (f + 1) := by
      have : yk_co (f + 1) = 8 + f * yk_co f := rfl
      omega
    obtain ⟨s', c, b1, b2, b3, b4⟩ := yk_lev r1 r2 r3 r4 (yk_ds ok t (f + 1)) (yk_co (f + 1)) x r hv hx (fun _ _ _ => hco)
      (fun v h7 hc ht s k K hJ hn hp hB => by
        have h := yk_cn_push h7 hc 7 (Nat.le_refl 7)
        rw [if_pos (by omega)] at h
        exact ih v (x :: r) (yk_vt_push hv h7 hc) ht (by omega) s k K hJ hn hp hB)
      7 (Nat.le_refl 7) s k K hJ hn hp (by omega)
    exact ⟨s', c, b1, b2, by omega, b4⟩
