/-! What the two insertions leave in their arrays. -/
def yk_s1 (r m : Nat) (f : Nat → Int32) : Nat → Int32 := fun j => if r < j ∧ j < m then f (j - 1) else f j
def yk_s7 (r m : Nat) (f : Nat → Int32) : Nat → Int32 := fun j => if 7 * r + 7 ≤ j ∧ j < 7 * m then f (j - 7) else f j
def yk_cp (k i : Nat) (f : Nat → Int32) : Nat → Int32 := fun j => if 7 * k ≤ j ∧ j < 7 * k + i then f (j - 7) else f j
def yk_pl (r i : Nat) (h f : Nat → Int32) : Nat → Int32 := fun j => if 7 * r ≤ j ∧ j < 7 * r + i then h (j - 7 * r) else f j

theorem yk_cp_0 (k : Nat) (f : Nat → Int32) : yk_cp k 0 f = f := by
  funext j; exact if_neg (by omega)
theorem yk_cp_r {k i j : Nat} (f : Nat → Int32) (h : j < 7 * k) : yk_cp k i f j = f j := if_neg (by omega)
theorem yk_cp_s {k i : Nat} (f : Nat → Int32) : upd (yk_cp k i f) (7 * k + i) (f (7 * k + i - 7)) = yk_cp k (i + 1) f := by
  funext j
  by_cases h : j = 7 * k + i
  · subst h
    rw [pk_us]
    exact (if_pos (by omega)).symm
  · rw [pk_un h]
    by_cases h2 : 7 * k ≤ j ∧ j < 7 * k + i
    · exact (if_pos h2).trans (if_pos (by omega)).symm
    · exact (if_neg h2).trans (if_neg (by omega)).symm
theorem yk_s1_t {k m : Nat} (f : Nat → Int32) (h : m ≤ k + 1) : yk_s1 k m f = f := by
  funext j; exact if_neg (by omega)
theorem yk_s7_t {k m : Nat} (f : Nat → Int32) (h : m ≤ k + 1) : yk_s7 k m f = f := by
  funext j; exact if_neg (by omega)
theorem yk_s1_r {k m j : Nat} (f : Nat → Int32) (h : j ≤ k) : yk_s1 k m f j = f j := if_neg (by omega)
theorem yk_s1_s {k m : Nat} (f : Nat → Int32) (h : k + 1 < m) : upd (yk_s1 (k + 1) m f) (k + 1) (f k) = yk_s1 k m f := by
  funext j
  by_cases e : j = k + 1
  · subst e
    rw [pk_us]
    exact (if_pos (by omega)).symm
  · rw [pk_un e]
    by_cases h2 : k + 1 < j ∧ j < m
    · exact (if_pos h2).trans (if_pos (by omega)).symm
    · exact (if_neg h2).trans (if_neg (by omega)).symm
theorem yk_s7_s {k m : Nat} (f : Nat → Int32) (h : k + 1 < m) : yk_cp (k + 1) 7 (yk_s7 (k + 1) m f) = yk_s7 k m f := by
  funext j
  by_cases h1 : 7 * (k + 1) ≤ j ∧ j < 7 * (k + 1) + 7
  · refine (if_pos h1).trans ?_
    exact (if_neg (by omega)).trans (if_pos (by omega)).symm
  · refine (if_neg h1).trans ?_
    by_cases h2 : 7 * (k + 1) + 7 ≤ j ∧ j < 7 * m
    · exact (if_pos h2).trans (if_pos (by omega)).symm
    · exact (if_neg h2).trans (if_neg (by omega)).symm
theorem yk_pl_0 (r : Nat) (h f : Nat → Int32) : yk_pl r 0 h f = f := by
  funext j; exact if_neg (by omega)
theorem yk_pl_s {r i : Nat} (h f : Nat → Int32) : upd (yk_pl r i h f) (7 * r + i) (h i) = yk_pl r (i + 1) h f := by
  funext j
  by_cases e : j = 7 * r + i
  · subst e
    rw [pk_us]
    refine ((if_pos (by omega)).trans ?_).symm
    congr 1
    omega
  · rw [pk_un e]
    by_cases h2 : 7 * r ≤ j ∧ j < 7 * r + i
    · exact (if_pos h2).trans (if_pos (by omega)).symm
    · exact (if_neg h2).trans (if_neg (by omega)).symm
theorem yk_pl_sk {p : List Nat} {r : Nat} {h : Nat → Int32} (f : Nat → Int32) (hs : yk_sk p h) : yk_sk p (fun i => yk_pl r p.length h f (7 * r + i)) := by
  refine yk_sk_ag (fun i hi => ?_) hs
  refine (if_pos (by omega)).trans ?_
  congr 1
  omega
/-- the new table, as both sides leave it -/
theorem yk_tb_put {w : Nat → Nat} {A : Nat × (Nat → List Nat)} {p : List Nat} {le si ve h : Nat → Int32} (hT : yk_tb w A le si ve) (h7 : ∀ k, k < A.1 → (A.2 k).length ≤ 7) (hp : p.length ≤ 7)
    (h12 : A.1 ≤ 12) (r m : Nat) (hr : r = yk_rk w A.2 (yk_ln w p) A.1) (hm : (yk_ad w A p).1 ≤ m) (hs : yk_sk p h) :
    yk_tb w (yk_ad w A p) (upd (yk_s1 r m le) r (nI (yk_ln w p))) (upd (yk_s1 r m si) r (nI p.length)) (yk_pl r p.length h (yk_s7 r m ve)) := by
  refine yk_tb_ad hT h7 r hr ?_ ?_ ?_ h12
  · intro k hk _
    refine ⟨?_, ?_, ?_⟩
    · rw [pk_un (by omega), yk_s1_r _ (by omega)]
    · rw [pk_un (by omega), yk_s1_r _ (by omega)]
    · intro i hi
      exact (if_neg (by omega)).trans (if_neg (by omega))
  · intro _
    exact ⟨pk_us, pk_us, yk_pl_sk _ hs⟩
  · intro k hk hk2
    refine ⟨?_, ?_, ?_⟩
    · rw [pk_un (by omega)]; exact if_pos (by omega)
    · rw [pk_un (by omega)]; exact if_pos (by omega)
    · intro i hi
      refine (if_neg (by omega)).trans ((if_pos (by omega)).trans ?_)
      congr 1
      omega
/-- the table that is left alone, where the new path comes behind the twelfth -/
theorem yk_tb_stay {w : Nat → Nat} {A : Nat × (Nat → List Nat)} {p : List Nat} {le si ve : Nat → Int32} (hT : yk_tb w A le si ve) (h7 : ∀ k, k < A.1 → (A.2 k).length ≤ 7)
    (h12 : A.1 ≤ 12) (hr : 12 = yk_rk w A.2 (yk_ln w p) A.1) : yk_tb w (yk_ad w A p) le si ve := by
  have hn : (yk_ad w A p).1 ≤ 12 := by rw [yk_ad_1]; split <;> omega
  exact yk_tb_ad hT h7 12 hr (fun k _ _ => ⟨rfl, rfl, fun _ _ => rfl⟩) (fun h => absurd h (Nat.lt_irrefl 12)) (fun k hk hk2 => by omega) h12
