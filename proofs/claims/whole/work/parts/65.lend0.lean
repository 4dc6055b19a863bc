theorem upd_self (f : Nat → Int32) (i : Nat) : upd f i (f i) = f := by
  funext j
  by_cases e : j = i
  · subst e; rw [upd_s]
  · rw [upd_n e]
theorem sub_up (x a : Int32) : x - a + (a + 1) = x + 1 := by rw [← Int32.add_assoc, Int32.sub_add_cancel]
theorem sum_up {so lo : Nat → Int32} {R r s s' : Nat} (hr : r < R) (hs : so r = nI s) (h1 : s < 100) (h2 : s' < 100) : sm (fun q => if so q = nI s' then upd lo r (lo r + 1) q else 0) R = if s' = s then sm (fun q => if so q = nI s' then lo q else 0) R + 1 else sm (fun q => if so q = nI s' then lo q else 0) R := by
  by_cases e : s' = s
  · subst e
    rw [if_pos rfl, sm_one (f := fun q => if so q = nI s' then lo q else 0) (f' := fun q => if so q = nI s' then upd lo r (lo r + 1) q else 0) (r := r) (fun k hk => by
      show (if so k = nI s' then upd lo r (lo r + 1) k else 0) = _
      rw [upd_n hk]) hr]
    show _ - (if so r = nI s' then lo r else 0) + (if so r = nI s' then upd lo r (lo r + 1) r else 0) = _
    rw [if_pos hs, if_pos hs, upd_s, sub_up]
  · rw [if_neg e]
    refine sm_cong (fun q hq => ?_)
    by_cases e2 : q = r
    · subst e2
      have : ¬ (so q = nI s') := by rw [hs]; exact nI_ne (by omega) (by omega) (fun x => e x.symm)
      rw [if_neg this, if_neg this]
    · rw [upd_n e2]
theorem bnd_gI {x : Int32} : ∃ d, 1 ≤ d ∧ d ≤ 60 ∧ bnd x 1 60 = nI d := by
  have h1 : wi (bnd x 1 60) (nI 1) (nI 60) = true := by
    unfold wi bnd jmax jmin
    have e1 : (1 : Int32).toInt = 1 := rfl
    have e60 : (60 : Int32).toInt = 60 := rfl
    have f1 : nI 1 = 1 := rfl
    have f60 : nI 60 = 60 := rfl
    rw [f1, f60]
    by_cases c : x < 60
    · rw [if_pos c]
      by_cases c2 : 1 < x
      · rw [if_pos c2]
        rw [Int32.lt_iff_toInt_lt] at c c2
        have g1 : (1 : Int32) ≤ x := by rw [Int32.le_iff_toInt_le]; omega
        have g2 : x ≤ 60 := by rw [Int32.le_iff_toInt_le]; omega
        simp [g1, g2]
      · rw [if_neg c2]; decide
    · rw [if_neg c, if_pos (by decide)]; decide
  obtain ⟨k, k1, k2, k3⟩ := wi_r h1 (by decide) (by decide)
  exact ⟨k, k1, k2, k3⟩
