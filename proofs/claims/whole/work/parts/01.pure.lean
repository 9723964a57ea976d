/-! The pure picture: trails are lists of vertices, the last vertex first. -/
def yk_sh (v : Nat) : Int32 := (1 : Int32) <<< (nI v &&& 31)
def yk_mk : List Nat → Int32
  | [] => 0
  | v :: p => yk_mk p ||| yk_sh v
def yk_ln (w : Nat → Nat) : List Nat → Nat
  | [] => 0
  | [_] => 0
  | b :: a :: r => yk_ln w (a :: r) + w (7 * a + b)
def yk_ps (u v : Int32) : List Nat → Bool
  | [] => false
  | [_] => false
  | b :: a :: r => (decide (nI a = u) && decide (nI b = v)) || yk_ps u v (a :: r)
def yk_bl (ok : Nat → Nat → Bool) (p : List Nat) (v : Nat) : Bool := p.contains v || !(ok (p.headD 0) v)
def yk_in (ok : Nat → Nat → Bool) (t : Nat) (g : List Nat → List (List Nat)) (p : List Nat) : Nat → List (List Nat)
  | 0 => []
  | d + 1 => (if yk_bl ok p (6 - d) = true then [] else if 6 - d = t then [(6 - d) :: p] else g ((6 - d) :: p)) ++ yk_in ok t g p d
def yk_ds (ok : Nat → Nat → Bool) (t : Nat) : Nat → List Nat → List (List Nat)
  | 0 => fun _ => []
  | f + 1 => fun p => yk_in ok t (yk_ds ok t f) p 7

theorem yk_ln_le {w : Nat → Nat} (hw : ∀ c, w c ≤ 50) : ∀ p : List Nat, yk_ln w p ≤ 50 * p.length
  | [] => by simp [yk_ln]
  | [_] => by simp [yk_ln]
  | b :: a :: r => by
    have h := yk_ln_le hw (a :: r)
    have h2 := hw (7 * a + b)
    rw [yk_ln]
    simp only [List.length_cons] at h ⊢
    omega

theorem yk_in_ext {ok : Nat → Nat → Bool} {t : Nat} {g : List Nat → List (List Nat)} {p : List Nat} (hg : ∀ v q, q ∈ g (v :: p) → (v :: p) <:+ q) : ∀ d, d ≤ 7 → ∀ q, q ∈ yk_in ok t g p d → ∃ v, 7 ≤ v + d ∧ v < 7 ∧ (v :: p) <:+ q := by
  intro d
  induction d with
  | zero => intro _ q h; simp [yk_in] at h
  | succ d ih =>
    intro hd q h
    rw [yk_in] at h
    rcases List.mem_append.mp h with h | h
    · refine ⟨6 - d, by omega, by omega, ?_⟩
      split at h
      · simp at h
      · split at h
        · rw [List.mem_singleton.mp h]; exact ⟨[], rfl⟩
        · exact hg _ _ h
    · obtain ⟨v, h1, h2, h3⟩ := ih (by omega) q h
      exact ⟨v, by omega, h2, h3⟩

theorem yk_ds_ext {ok : Nat → Nat → Bool} {t : Nat} : ∀ f p q, q ∈ yk_ds ok t f p → p <:+ q := by
  intro f
  induction f with
  | zero => intro p q h; simp [yk_ds] at h
  | succ f ih =>
    intro p q h
    obtain ⟨v, _, _, z, rfl⟩ := yk_in_ext (fun v q hq => ih (v :: p) q hq) 7 (Nat.le_refl 7) q h
    exact ⟨z ++ [v], by simp⟩

def yk_lb : List Nat → List Nat → Prop
  | a :: q, b :: p => a < b ∨ (a = b ∧ yk_lb q p)
  | [], _ => True
  | _ :: _, [] => True

theorem yk_lb_app (c : List Nat) {v v' : Nat} (h : v < v') (q p : List Nat) : yk_lb (c ++ v :: q) (c ++ v' :: p) := by
  induction c with
  | nil => exact Or.inl h
  | cons x c ih => exact Or.inr ⟨rfl, ih⟩

def yk_pw (L : List (List Nat)) : Prop := L.Pairwise (fun q p => yk_lb q.reverse p.reverse)

theorem yk_in_pw {ok : Nat → Nat → Bool} {t : Nat} {g : List Nat → List (List Nat)} {p : List Nat} (hg : ∀ v q, q ∈ g (v :: p) → (v :: p) <:+ q) (hp : ∀ v, yk_pw (g (v :: p))) : ∀ d, d ≤ 7 → yk_pw (yk_in ok t g p d) := by
  intro d
  induction d with
  | zero => intro _; exact List.Pairwise.nil
  | succ d ih =>
    intro hd
    rw [yk_in]
    refine List.pairwise_append.mpr ⟨?_, ih (by omega), ?_⟩
    · split
      · exact List.Pairwise.nil
      · split
        · exact List.pairwise_singleton _ _
        · exact hp _
    · intro a ha b hb
      have hA : ((6 - d) :: p) <:+ a := by
        split at ha
        · simp at ha
        · split at ha
          · rw [List.mem_singleton.mp ha]; exact ⟨[], rfl⟩
          · exact hg _ _ ha
      obtain ⟨v, h1, h2, z', rfl⟩ := yk_in_ext hg d (by omega) b hb
      obtain ⟨z, rfl⟩ := hA
      rw [List.reverse_append, List.reverse_append, List.reverse_cons, List.reverse_cons, List.append_assoc, List.append_assoc]
      exact yk_lb_app p.reverse (by omega) _ _

theorem yk_ds_pw {ok : Nat → Nat → Bool} {t : Nat} : ∀ f p, yk_pw (yk_ds ok t f p) := by
  intro f
  induction f with
  | zero => intro p; exact List.Pairwise.nil
  | succ f ih =>
    intro p
    exact yk_in_pw (fun v q hq => yk_ds_ext f (v :: p) q hq) (fun v => ih (v :: p)) 7 (Nat.le_refl 7)

theorem yk_ps_cons {u v : Int32} (a : Nat) {l : List Nat} (h : yk_ps u v l = true) : yk_ps u v (a :: l) = true := by
  cases l with
  | nil => simp [yk_ps] at h
  | cons b l => rw [yk_ps, h, Bool.or_true]

theorem yk_ps_suf {u v : Int32} {l q : List Nat} (h : yk_ps u v l = true) (hs : l <:+ q) : yk_ps u v q = true := by
  obtain ⟨z, rfl⟩ := hs
  induction z with
  | nil => exact h
  | cons a z ih => exact yk_ps_cons a ih

theorem yk_in_fil {okX okY : Nat → Nat → Bool} {t : Nat} {u v : Int32} {g g' : List Nat → List (List Nat)} {p : List Nat}
    (hok : ∀ y, y < 7 → okX (p.headD 0) y = (okY (p.headD 0) y && !(decide (nI (p.headD 0) = u) && decide (nI y = v))))
    (hp : p ≠ []) (hps : yk_ps u v p = false)
    (hg' : ∀ y, y < 7 → yk_ps u v (y :: p) = false → g' (y :: p) = (g (y :: p)).filter (fun q => !yk_ps u v q))
    (hg : ∀ y q, q ∈ g (y :: p) → (y :: p) <:+ q) : ∀ d, d ≤ 7 → yk_in okX t g' p d = (yk_in okY t g p d).filter (fun q => !yk_ps u v q) := by
  intro d
  induction d with
  | zero => intro _; rfl
  | succ d ih =>
    intro hd
    rw [yk_in, yk_in, List.filter_append, ih (by omega)]
    congr 1
    have hy : 6 - d < 7 := by omega
    have hh := hok (6 - d) hy
    have hg'' := hg' (6 - d) hy
    have hg3 := hg (6 - d)
    have h1 : yk_ps u v ((6 - d) :: p) = (decide (nI (p.headD 0) = u) && decide (nI (6 - d) = v)) := by
      cases p with
      | nil => exact absurd rfl hp
      | cons x r => rw [yk_ps, hps, Bool.or_false]; rfl
    generalize 6 - d = y at *
    rw [← h1] at hh
    unfold yk_bl
    rw [hh]
    cases hc : p.contains y with
    | true => simp
    | false =>
      cases hY : okY (p.headD 0) y with
      | false => simp
      | true =>
        cases hP : yk_ps u v (y :: p) with
        | true =>
          simp only [Bool.false_or, Bool.not_true, Bool.and_false, Bool.not_false, if_true, Bool.false_eq_true, if_false]
          by_cases ht : y = t
          · rw [if_pos ht]; simp [hP]
          · rw [if_neg ht]
            symm
            rw [List.filter_eq_nil_iff]
            intro q hq
            rw [yk_ps_suf hP (hg3 q hq)]
            simp
        | false =>
          simp only [Bool.false_or, Bool.not_false, Bool.and_true, Bool.not_true, Bool.false_eq_true, if_false]
          by_cases ht : y = t
          · rw [if_pos ht, if_pos ht]; simp [hP]
          · rw [if_neg ht, if_neg ht]; exact hg'' hP

theorem yk_ds_fil {okX okY : Nat → Nat → Bool} {t : Nat} {u v : Int32}
    (hok : ∀ x y, x < 7 → y < 7 → okX x y = (okY x y && !(decide (nI x = u) && decide (nI y = v)))) : ∀ f p, p ≠ [] → p.headD 0 < 7 → yk_ps u v p = false → yk_ds okX t f p = (yk_ds okY t f p).filter (fun q => !yk_ps u v q) := by
  intro f
  induction f with
  | zero => intro p _ _ _; rfl
  | succ f ih =>
    intro p hp h7 hps
    exact yk_in_fil (fun y hy => hok _ y h7 hy) hp hps (fun y hy h => ih (y :: p) (by simp) hy h) (fun y q hq => yk_ds_ext f (y :: p) q hq) 7 (Nat.le_refl 7)
