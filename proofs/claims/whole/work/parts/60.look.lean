theorem mset_oo {μ : Mm} {k i q j : Nat} {v : Int32} (h : q ≠ k) : mset μ k i v q j = μ q j := by rw [mset_o h]
def wr12 (μ : Mm) (f : Nat → Int32) : Mm := mset (mset (mset (mset (mset (mset (mset (mset (mset (mset (mset (mset μ 52 116 (f 0)) 52 107 (f 1)) 52 108 (f 2)) 52 102 (f 3)) 52 112 (f 4)) 52 110 (f 5)) 52 104 (f 6)) 52 115 (f 7)) 52 98 (f 8)) 52 121 (f 9)) 52 120 (f 10)) 52 114 (f 11)
def wm12 (μ : Mm) (f : Nat → Int32) : Mm := mset (mset (mset (mset (mset (mset (mset (mset (mset (mset (mset (mset μ 43 0 (f 0)) 43 1 (f 1)) 43 2 (f 2)) 43 3 (f 3)) 43 4 (f 4)) 43 5 (f 5)) 43 6 (f 6)) 43 7 (f 7)) 43 8 (f 8)) 43 9 (f 9)) 43 10 (f 10)) 43 11 (f 11)
theorem wr12_o {μ : Mm} {f : Nat → Int32} {c : Nat} (h : c ≠ 52) : wr12 μ f c = μ c := by unfold wr12; simp only [mset_o h]
theorem wm12_o {μ : Mm} {f : Nat → Int32} {c : Nat} (h : c ≠ 43) : wm12 μ f c = μ c := by unfold wm12; simp only [mset_o h]
theorem wr12_f {μ : Mm} {f : Nat → Int32} : ∀ w, w < 12 → wr12 μ f 52 (lch w) = f w := by
  intro w hw
  rcases (show w = 0 ∨ w = 1 ∨ w = 2 ∨ w = 3 ∨ w = 4 ∨ w = 5 ∨ w = 6 ∨ w = 7 ∨ w = 8 ∨ w = 9 ∨ w = 10 ∨ w = 11 by omega) with rfl | rfl | rfl | rfl | rfl | rfl | rfl | rfl | rfl | rfl | rfl | rfl <;> rfl
theorem wm12_f {μ : Mm} {f : Nat → Int32} : ∀ w, w < 12 → wm12 μ f 43 w = f w := by
  intro w hw
  rcases (show w = 0 ∨ w = 1 ∨ w = 2 ∨ w = 3 ∨ w = 4 ∨ w = 5 ∨ w = 6 ∨ w = 7 ∨ w = 8 ∨ w = 9 ∨ w = 10 ∨ w = 11 by omega) with rfl | rfl | rfl | rfl | rfl | rfl | rfl | rfl | rfl | rfl | rfl | rfl <;> rfl
theorem wr12_abs (μ : Mm) (f : Nat → Int32) : absX (wr12 μ f) = absX μ := by
  unfold wr12
  rw [absX_s rfl, absX_s rfl, absX_s rfl, absX_s rfl, absX_s rfl, absX_s rfl, absX_s rfl, absX_s rfl, absX_s rfl, absX_s rfl, absX_s rfl, absX_s rfl]
theorem wm12_abs (μ : Mm) (f : Nat → Int32) : absM (wm12 μ f) = absM μ := by
  unfold wm12
  rw [absM_s rfl, absM_s rfl, absM_s rfl, absM_s rfl, absM_s rfl, absM_s rfl, absM_s rfl, absM_s rfl, absM_s rfl, absM_s rfl, absM_s rfl, absM_s rfl]
section
variable {μ ν : Mm}
theorem g_kind (g : Good ν) {b : Nat} (hb : b < nB ν) : ∃ k, k < 8 ∧ ν 1 b = nI k := by
  obtain ⟨k, h1, h2⟩ := (g.2.1.1 b hb).1
  exact ⟨k, by omega, h2⟩
theorem g_home (g : Good ν) {r : Nat} (hr : r < nR ν) : ∃ s, s < nS ν ∧ ν 15 r = nI s := (g.2.2.2.2.1.1 r hr).1
theorem x_look (rx : RX μ ν) (g : Good ν) {r b : Nat} (hr : r < nR ν) (hb : b < nB ν) (x y : Int32) : vs_Wishes_look μ (nI r) (nI b) x y = some (wr12 μ (fcv ν r b x y)) := by
  have hR := (g_R g).2
  have hB := (g_B g).2
  have hS := (g_S g).2
  obtain ⟨k, hk, ek⟩ := g_kind g hb
  obtain ⟨s, hs, es⟩ := g_home g hr
  have hr16 : r < 16 := by omega
  have hb32 : b < 32 := by omega
  have e15 : μ 15 b = nI k := by rw [rx.2.1.1, ek]
  have e25 : μ 25 r = nI s := by rw [rx.2.2.2.1.1, es]
  have e8 : nI r * 8 + nI k = nI (8 * r + k) := ix3 8 r k
  unfold vs_Wishes_look
  rw [mrd_nI hb32 (by decide), mrd_nI hr16 (by decide), e15, e25, e8, mrd_nI (by omega) (by decide)]
  rw [mwr_at (k := 116) (by rfl) (by decide) (by decide), mwr_at (k := 107) (by rfl) (by decide) (by decide), mrd_nI hb32 (by decide)]
  rw [mwr_at (k := 108) (by rfl) (by decide) (by decide), mrd_nI hb32 (by decide)]
  rw [mwr_at (k := 102) (by rfl) (by decide) (by decide), mrd_nI hb32 (by decide)]
  rw [mwr_at (k := 112) (by rfl) (by decide) (by decide), mrd_nI hr16 (by decide), mrd_nI hk (by decide)]
  simp (disch := decide) only [mset_oo]
  rw [bitCount_eq, mbv_s, x_nKd rx g hr16 hk ek]
  rw [mwr_at (k := 110) (by rfl) (by decide) (by decide), mrd_nI hr16 (by decide)]
  rw [mwr_at (k := 104) (by rfl) (by decide) (by decide), mwr_at (k := 115) (by rfl) (by decide) (by decide), mwr_at (k := 98) (by rfl) (by decide) (by decide), mwr_at (k := 121) (by rfl) (by decide) (by decide), mwr_at (k := 120) (by rfl) (by decide) (by decide), mrd_nI hb32 (by decide), mrd_nI (by omega) (by decide)]
  simp (disch := decide) only [mset_oo]
  rw [bitCount_eq, mbv_s, x_nSt rx g hb32 (by omega) es, mwr_at (k := 114) (by rfl) (by decide) (by decide)]
  have f27 : μ 27 (8 * r + k) = ν 17 (8 * r + (ν 1 b).toNatClampNeg) := by rw [ek, nI_clamp (by omega), rx.2.2.2.1.2.2.1]
  have f29 : μ 29 r = nI (nOt ν r) := rx.2.2.2.2.2.2.2.2.2.1 r hr16
  rw [f27, f29, rx.2.1.2.1, rx.2.1.2.2.1, rx.2.1.2.2.2.1, ← ek, ← es]
  rfl
theorem m_feels (g : Good ν) {r b : Nat} (hr : r < nR ν) (hb : b < nB ν) (x : Int32) : md_feels ν (nI r) (nI b) x = some (wm12 ν (fcv ν r b x (ν 0 0))) := by
  have hR := (g_R g).2
  have hB := (g_B g).2
  obtain ⟨k, hk, ek⟩ := g_kind g hb
  have hr16 : r < 16 := by omega
  have hb32 : b < 32 := by omega
  have e8 : (8 : Int32) * nI r + nI k = nI (8 * r + k) := ix2 8 r k
  unfold md_feels
  rw [m_nKd g hr16 hb32, mbv_s, m_nSt g hr16 hb32, mbv_s, mrd_nI hb32 (by decide), ek, e8, mrd_nI (by omega) (by decide)]
  rw [mwr_at (k := 0) (by rfl) (by decide) (by decide), mrd_nI hb32 (by decide), mwr_at (k := 1) (by rfl) (by decide) (by decide), mrd_nI hb32 (by decide), mwr_at (k := 2) (by rfl) (by decide) (by decide), mrd_nI hb32 (by decide), mwr_at (k := 3) (by rfl) (by decide) (by decide), mrd_nI hb32 (by decide), mwr_at (k := 4) (by rfl) (by decide) (by decide), mwr_at (k := 5) (by rfl) (by decide) (by decide)]
  rw [m_outWith (Good_abs (by rw [absM_s rfl, absM_s rfl, absM_s rfl, absM_s rfl, absM_s rfl, absM_s rfl]) g), mbv_s]
  rw [mwr_at (k := 6) (by rfl) (by decide) (by decide), mrd_nI hr16 (by decide), mwr_at (k := 7) (by rfl) (by decide) (by decide), mwr_at (k := 8) (by rfl) (by decide) (by decide), mwr_at (k := 9) (by rfl) (by decide) (by decide), mwr_at (k := 10) (by rfl) (by decide) (by decide), mwr_at (k := 11) (by rfl) (by decide) (by decide)]
  simp (disch := decide) only [mset_oo]
  have f17 : ν 17 (8 * r + k) = ν 17 (8 * r + (ν 1 b).toNatClampNeg) := by rw [ek, nI_clamp (by omega)]
  rw [f17]
  rfl
end
