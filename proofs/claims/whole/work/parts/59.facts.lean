def nKd (ν : Mm) (r b : Nat) : Nat := cn (fun q => decide (ν 21 (32 * r + q) ≠ 0) && decide (ν 1 q = ν 1 b)) (nB ν)
def nSt (ν : Mm) (r b : Nat) : Nat := cn (fun q => decide (ν 15 q = ν 15 r) && decide (ν 21 (32 * q + b) ≠ 0)) (nR ν)
def nOt (ν : Mm) (r : Nat) : Nat := cn (fun b => decide (ν 5 b = nI (10 + r))) (nB ν)
/-- the twelve facts of reader r and book b, x days late, on day y -/
def fcv (ν : Mm) (r b : Nat) (x y : Int32) : Nat → Int32
  | 0 => ν 17 (8 * r + (ν 1 b).toNatClampNeg)
  | 1 => ν 1 b
  | 2 => ν 2 b
  | 3 => ν 3 b
  | 4 => ν 4 b
  | 5 => nI (nKd ν r b)
  | 6 => nI (nOt ν r)
  | 7 => ν 15 r
  | 8 => nI b
  | 9 => y
  | 10 => x
  | _ => nI (nSt ν r b)
section
variable {μ ν : Mm}
theorem x_nKd (rx : RX μ ν) (g : Good ν) {r b k : Nat} (hr : r < 16) (hk : k < 8) (e : ν 1 b = nI k) : bc (μ 28 r &&& μ 24 k) = nKd ν r b := by
  have hB := g_B g
  have h1 := rx.2.2.2.2.2.2.2.1.2 r hr
  have h2 := rx.2.2.2.2.2.2.2.2.1 k hk
  unfold bc nKd
  rw [bcn_cn]
  refine cn_lt (by omega) (fun q hq => ?_) (fun q h3 h4 => ?_)
  · rw [tb_and, h1 q (by omega), h2 q (by omega), e]; simp [hq]
  · rw [tb_and, h2 q h4]
    have : ¬ q < nB ν := by omega
    simp [this]
theorem x_nSt (rx : RX μ ν) (g : Good ν) {r b s : Nat} (hb : b < 32) (hs : s < 10) (e : ν 15 r = nI s) : bc (μ 23 b &&& μ 39 s) = nSt ν r b := by
  have hR := g_R g
  have h1 := rx.2.2.2.2.2.2.2.1.1 b hb
  have h2 := rx.2.2.2.2.2.2.2.2.2.2.1 s hs
  unfold bc nSt
  rw [bcn_cn]
  refine cn_lt (by omega) (fun q hq => ?_) (fun q h3 h4 => ?_)
  · have h16 : q < 16 := by omega
    rw [tb_and, h1 q (by omega), h2 q (by omega), e]; simp [hq, h16, Bool.and_comm]
  · rw [tb_and, h2 q h4]
    have : ¬ q < nR ν := by omega
    simp [this]
theorem m_nKd (g : Good ν) {r b : Nat} (hr : r < 16) (hb : b < 32) (x : Int32) : md_feels_l6 ν (nI r) (nI b) x 0 0 = some (nI (nKd ν r b)) := by
  have hB := g_B g
  unfold md_feels_l6
  rw [sum_loop (f := md_feels_b6 ν (nI r) (nI b) x) (n := nB ν) (fun q => if (decide (ν 21 (32 * r + q) ≠ 0) && decide (ν 1 q = ν 1 b)) = true then 1 else 0) (by omega) (fun i a hi => by
    unfold md_feels_b6
    have e32 : (32 : Int32) * nI r + nI i = nI (32 * r + i) := ix2 32 r i
    rw [hB.1, if_neg (nI_ge hi (by omega)), e32, mrd_nI (by omega) (by decide), mrd_nI (by omega) (by decide), mrd_nI hb (by decide)]
    by_cases c : ν 21 (32 * r + i) = 0
    · rw [if_pos c]; simp [c]
    · rw [if_neg c]
      by_cases c2 : ν 1 i = ν 1 b
      · rw [if_pos c2]; simp [c, c2]
      · rw [if_neg c2]; simp [c2]) (fun a => by
    unfold md_feels_b6
    rw [hB.1, if_pos (nI_le (Nat.le_refl _) (by omega))]), sm_cn]
  rfl
theorem m_nSt (g : Good ν) {r b : Nat} (hr : r < 16) (hb : b < 32) (x z : Int32) : md_feels_l68 ν (nI r) (nI b) x z 0 0 = some (nI (nSt ν r b)) := by
  have hR := g_R g
  unfold md_feels_l68
  rw [sum_loop (f := md_feels_b68 ν (nI r) (nI b) x z) (n := nR ν) (fun q => if (decide (ν 15 q = ν 15 r) && decide (ν 21 (32 * q + b) ≠ 0)) = true then 1 else 0) (by omega) (fun i a hi => by
    unfold md_feels_b68
    have e32 : (32 : Int32) * nI i + nI b = nI (32 * i + b) := ix2 32 i b
    rw [hR.1, if_neg (nI_ge hi (by omega)), e32, mrd_nI (by omega) (by decide), mrd_nI hr (by decide), mrd_nI (by omega) (by decide)]
    by_cases c : ν 15 i = ν 15 r
    · rw [if_pos c]
      by_cases c2 : ν 21 (32 * i + b) = 0
      · rw [if_pos c2]; simp [c2]
      · rw [if_neg c2]; simp [c, c2]
    · rw [if_neg c]; simp [c]) (fun a => by
    unfold md_feels_b68
    rw [hR.1, if_pos (nI_le (Nat.le_refl _) (by omega))]), sm_cn]
  rfl
end
