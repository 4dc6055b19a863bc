/-! reading a sum: terms and sums -/
theorem sS_cs (x : Int32) : (x = 43 ∧ sS x = 2) ∨ (x = 45 ∧ sS x = 3) ∨ (x = 42 ∧ sS x = 4) ∨ (x = 47 ∧ sS x = 5) ∨ (x = 37 ∧ sS x = 6) ∨ (sS x = 0 ∧ x ≠ 43 ∧ x ≠ 45 ∧ x ≠ 42 ∧ x ≠ 47 ∧ x ≠ 37) := by
  by_cases c1 : x = 43
  · subst c1; exact Or.inl ⟨rfl, rfl⟩
  by_cases c2 : x = 45
  · subst c2; exact Or.inr (Or.inl ⟨rfl, rfl⟩)
  by_cases c3 : x = 42
  · subst c3; exact Or.inr (Or.inr (Or.inl ⟨rfl, rfl⟩))
  by_cases c4 : x = 47
  · subst c4; exact Or.inr (Or.inr (Or.inr (Or.inl ⟨rfl, rfl⟩)))
  by_cases c5 : x = 37
  · subst c5; exact Or.inr (Or.inr (Or.inr (Or.inr (Or.inl ⟨rfl, rfl⟩))))
  refine Or.inr (Or.inr (Or.inr (Or.inr (Or.inr ⟨?_, c1, c2, c3, c4, c5⟩))))
  unfold sS
  rw [if_neg c1, if_neg c2, if_neg c3, if_neg c4, if_neg c5]
theorem sS_opX {x : Int32} (h : sS x ≠ 0) (k : Nat) : opX k (sS x, 0) x 0 := by
  rcases sS_cs x with ⟨h1, h2⟩ | ⟨h1, h2⟩ | ⟨h1, h2⟩ | ⟨h1, h2⟩ | ⟨h1, h2⟩ | ⟨h1, _⟩
  · rw [h2]; exact ⟨rfl, by decide, Or.inr (Or.inr (Or.inl ⟨rfl, h1⟩))⟩
  · rw [h2]; exact ⟨rfl, by decide, Or.inr (Or.inr (Or.inr (Or.inl ⟨rfl, h1⟩)))⟩
  · rw [h2]; exact ⟨rfl, by decide, Or.inr (Or.inr (Or.inr (Or.inr (Or.inl ⟨rfl, h1⟩))))⟩
  · rw [h2]; exact ⟨rfl, by decide, Or.inr (Or.inr (Or.inr (Or.inr (Or.inr (Or.inl ⟨rfl, h1⟩)))))⟩
  · rw [h2]; exact ⟨rfl, by decide, Or.inr (Or.inr (Or.inr (Or.inr (Or.inr (Or.inr (Or.inl ⟨rfl, h1⟩))))))⟩
  · exact absurd h1 h
theorem sS_m1 {x : Int32} (h : sS x ≠ 0) : x ≠ -1 := by
  intro e
  rw [e] at h
  exact h (by decide)
theorem mzr_0 {α : Type} {K : Bool → Option α} : mzr 0 K = K false := rfl
theorem mzr_1 {α : Type} {K : Bool → Option α} : mzr 1 K = K true := rfl
section
variable {ν μ : Mm} {N : Nat} {sg : Nat → Int32}
theorem b14_mul' (hM : txM ν N sg) {f nb : Int32} {cd wa : Nat → Int32} {q a s w b ad mu F : Nat} (hP : ad = 0) (hq : q < N) (hs : s + 2 ≤ 220) (hw : w + 3 ≤ 220) (h : 4 ≤ sS (sg q)) (ht : noM (tpO wa w)) (hp : pdg wa w ad mu) : ∃ cd', miter (fun z => md_readsSum_b14 z (nI b)) (F + 1) (rM ν (nI q) f (nI a) (nI s) (nI (w + (pl ad).length + (pl mu).length)) nb cd wa) = kF FU F (nI b) (rM ν (nI (q + 1)) f (nI a) (nI (s + (pl mu ++ pl ad).length)) (nI (w + 1)) nb cd' (upd wa w (nI (1048576 * sS (sg q))))) ∧ (∀ i, i < s → cd' i = cd i) ∧ AtL (fun k o => cd' k = enc o) s (pl mu ++ pl ad) := by
  subst hP
  rw [pl_0, List.append_nil]
  exact b14_mul hM hq hs hw h ht hp
theorem stopT {n i : Nat} {a : Int32} (hX : txX μ N sg) {q : Nat} (hq : q ≤ N) (hi : i < 200) {f k : Int32} {st va : Nat → Int32} (h : ¬ (4 ≤ sS (sg q))) : vs_LawReading_readTerm_b8 (vs_LawReading_rec n) (xM μ (nI q) f k st va) a 1 (nI i) = some (.inr (1, xM μ (nI q) f k st va)) := by
  unfold vs_LawReading_readTerm_b8
  rw [if_neg (show ¬ ((200 : Int32) ≤ nI i) from nI_ge (b := 200) hi (by decide)), if_neg (by decide), x_sign hX hq]
  simp only [mbv_s]
  rw [if_neg (show ¬ (sg q = 42) from fun z => h (by rw [z]; decide)), if_neg (show ¬ (sg q = 47) from fun z => h (by rw [z]; decide)), if_neg (show ¬ (sg q = 37) from fun z => h (by rw [z]; decide))]
theorem zeroT {n : Nat} {a i : Int32} {M : Mm} : vs_LawReading_readTerm_b8 (vs_LawReading_rec n) M a 0 i = some (.inr (0, M)) := by
  unfold vs_LawReading_readTerm_b8
  split
  · rfl
  · rw [if_pos rfl]
theorem operT {n i : Nat} {a : Int32} (hX : txX μ N sg) {q : Nat} (hq : q ≤ N) (hi : i < 200) {f k : Int32} {st va : Nat → Int32} (h : 4 ≤ sS (sg q)) : vs_LawReading_readTerm_b8 (vs_LawReading_rec n) (xM μ (nI q) f k st va) a 1 (nI i) = mbm (vs_LawReading_rec n 5 (xM μ (nI (q + 1)) f k st va) a) fun x9 μ10 => mbv (vs_Law_emit_sp μ10 (sg q) 0) fun μ12 => some (.inl (bI x9, nI (i + 1), μ12)) := by
  have j : vs_LawReading_readTerm_j46 (vs_LawReading_rec n) (xM μ (nI q) f k st va) a (nI i) = mbm (vs_LawReading_rec n 5 (xM μ (nI (q + 1)) f k st va) a) fun x9 μ10 => mbv (vs_Law_emit_sp μ10 (sg q) 0) fun μ12 => some (.inl (bI x9, nI (i + 1), μ12)) := by
    unfold vs_LawReading_readTerm_j46
    rw [x_sign hX hq, mbv_s, mst_s, xM_3, xMs3, nI_1, nI_1]
  unfold vs_LawReading_readTerm_b8
  rw [if_neg (show ¬ ((200 : Int32) ≤ nI i) from nI_ge (b := 200) hi (by decide)), if_neg (by decide), x_sign hX hq]
  simp only [mbv_s]
  rw [j]
  rcases sS_cs (sg q) with ⟨h1, h2⟩ | ⟨h1, h2⟩ | ⟨h1, h2⟩ | ⟨h1, h2⟩ | ⟨h1, h2⟩ | ⟨h1, _⟩
  · omega
  · omega
  · rw [if_pos h1]
  · rw [if_neg (show ¬ (sg q = 42) by rw [h1]; decide), if_pos h1]
  · rw [if_neg (show ¬ (sg q = 42) by rw [h1]; decide), if_neg (show ¬ (sg q = 47) by rw [h1]; decide), if_pos h1]
  · omega
theorem loopT (hX : txX μ N sg) (hM : txM ν N sg) {n a p s : Nat} (hF : LvF μ ν N sg n) (ha : a ≤ 6) (hn : 3 * (7 - a) ≤ n + 2) (hs : s ≤ p) : ∀ (m q : Nat) (c : List (Nat × Nat)) (i : Nat), N - q ≤ m → p < q → q ≤ N → i < q → c.length ≤ q - p → (fun _ : Int32 => True) (sg q) → smE (3 + 2 * (6 - a)) s c → (∃ φ, (∀ (f : Int32) (st va : Nat → Int32) (Fx : Nat), N - q + 1 < Fx → ∃ p' k' st' va', (k' ≤ 200 ∧ 0 < φ ∧ φ < 10000) ∧ miter (fun q : Int32 × Int32 × Mm => vs_LawReading_readTerm_b8 (vs_LawReading_rec n) q.2.2 (nI a) q.1 q.2.1) Fx (1, nI i, xM μ (nI q) f (nI (s + c.length)) st va) = some (0, xM μ p' (nI φ) (nI k') st' va')) ∧ ∀ (f : Int32) (w b F ad mu : Nat) (c0 : List (Nat × Nat)) (nb : Int32) (cd wa : Nat → Int32), noM (tpO wa w) → b ≤ w → w ≤ p → 400 ≤ F + q → ad = 0 → pdg wa w ad mu → c = c0 ++ (pl mu ++ pl ad) → mNo ν φ (fiN (nI b) (miter (fun z => md_readsSum_b14 z (nI b)) F (rM ν (nI q) f (nI a) (nI (s + c0.length)) (nI (w + (pl ad).length + (pl mu).length)) nb cd wa)))) ∨ ∃ q2 c2, q ≤ q2 ∧ q2 ≤ N ∧ c2.length ≤ q2 - p ∧ (fun x => sS x < 4) (sg q2) ∧ smE (3 + 2 * (6 - a)) s c2 ∧ (∀ (f : Int32) (st va : Nat → Int32) (Fx : Nat), N - q + 1 < Fx → AtL (fun k o => opX k o (st k) (va k)) s c → ∃ st' va', miter (fun q : Int32 × Int32 × Mm => vs_LawReading_readTerm_b8 (vs_LawReading_rec n) q.2.2 (nI a) q.1 q.2.1) Fx (1, nI i, xM μ (nI q) f (nI (s + c.length)) st va) = some (1, xM μ (nI q2) f (nI (s + c2.length)) st' va') ∧ (∀ i, i < s → st' i = st i ∧ va' i = va i) ∧ AtL (fun k o => opX k o (st' k) (va' k)) s c2) ∧ ∀ (f : Int32) (w b F ad mu : Nat) (c0 : List (Nat × Nat)) (nb : Int32) (cd wa : Nat → Int32), noM (tpO wa w) → b ≤ w → w ≤ p → 400 ≤ F + q → ad = 0 → pdg wa w ad mu → c = c0 ++ (pl mu ++ pl ad) → AtL (fun k o => cd k = enc o) s c0 → mOk ν (fun ad _ => ad = 0) f a q s w b F cd wa q2 c2 (miter (fun z => md_readsSum_b14 z (nI b)) F (rM ν (nI q) f (nI a) (nI (s + c0.length)) (nI (w + (pl ad).length + (pl mu).length)) nb cd wa)) := by
  intro m
  have hN := hX.2.1
  induction m with
  | zero =>
    intro q c i hm hpq hq hi hc hes hsm
    have hop : sS (sg q) = 0 := by rw [hX.2.2.2 q (by omega)]; decide
    have hno : ¬ (4 ≤ sS (sg q)) := by omega
    right
    refine ⟨q, c, Nat.le_refl _, hq, hc, (show sS (sg q) < 4 by omega), hsm, fun f st va Fx hFx hat => ?_, fun f w b F ad mu c0 nb cd wa ht hb hw hF' hP hpd hcc hat => ?_⟩
    · obtain ⟨F2, rfl⟩ : ∃ F2, Fx = F2 + 1 := ⟨Fx - 1, by omega⟩
      exact ⟨st, va, miter_r (stopT hX hq (by omega) hno), fun _ _ => ⟨rfl, rfl⟩, hat⟩
    · exact ⟨F, ad, mu, c0, nb, cd, wa, by omega, rfl, hP, hpd, hcc, fun _ _ => rfl, fun _ _ => rfl, hat⟩
  | succ m ih =>
    intro q c i hm hpq hq hi hc hes hsm
    by_cases hop : 4 ≤ sS (sg q)
    · have hqN : q < N := sg_lt hX (sS_m1 (by omega))
      have hs0 : sS (sg q) ≠ 0 := by omega
      rcases hF a (q + 1) (s + c.length) ha hn (by omega) (by omega) with ⟨φ, k1, k2⟩ | ⟨q2, c2, q1, q2N, q3, q4, q5, k1, k2⟩
      · left
        refine ⟨φ, fun f st va Fx hFx => ?_, fun f w b F ad mu c0 nb cd wa ht hb hw hF' hP hpd hcc => ?_⟩
        · obtain ⟨F2, rfl⟩ : ∃ F2, Fx = F2 + 1 + 1 := ⟨Fx - 2, by omega⟩
          obtain ⟨p', k', st', va', z1, z2⟩ := k1 f st va
          obtain ⟨s3, st3, va3, y1, y2⟩ := x_emitL (μ := μ) (p := p') (f := nI φ) (st := st') (va := va') (a1 := sg q) (a2 := 0) z1.1
          refine ⟨p', s3, st3, va3, ⟨y1, z1.2⟩, miter_l (q' := (0, nI (i + 1), xM μ p' (nI φ) (nI s3) st3 va3)) ?_ (miter_r zeroT)⟩
          refine (operT hX hq (by omega) hop).trans ?_
          rw [z2, mbm_s, y2, mbv_s]
          rfl
        · obtain ⟨F2, rfl⟩ : ∃ F2, F = F2 + 1 := ⟨F - 1, by omega⟩
          have hlen : c.length = c0.length + (pl mu ++ pl ad).length := by rw [hcc, List.length_append]
          obtain ⟨cd1, d1, d2, d3⟩ := b14_mul' hM (f := f) (nb := nb) (cd := cd) (a := a) (b := b) (F := F2) hP hqN (s := s + c0.length) (by omega) (by omega) hop ht hpd
          rw [d1, show s + c0.length + (pl mu ++ pl ad).length = s + c.length by omega]
          exact k2 f (w + 1) b FU F2 nb cd1 (upd wa w (nI (1048576 * sS (sg q)))) trivial (by omega) (by omega) (by unfold FU; omega) (by omega)
      · have hemit : s + c.length + c2.length < 200 := by omega
        have hl2 : (c ++ c2 ++ [(sS (sg q), 0)]).length = c.length + c2.length + 1 := len3 _ _ _
        have hsm2 : smE (3 + 2 * (6 - a)) s (c ++ c2 ++ [(sS (sg q), 0)]) := smE_bin hsm q5 (by omega) (by omega) (by omega) (by omega) (by have := sS_cs (sg q); omega)
        have hx1 : ∀ (f : Int32) (st va : Nat → Int32), AtL (fun k o => opX k o (st k) (va k)) s c → ∃ st' va', vs_LawReading_readTerm_b8 (vs_LawReading_rec n) (xM μ (nI q) f (nI (s + c.length)) st va) (nI a) 1 (nI i) = some (.inl (1, nI (i + 1), xM μ (nI q2) f (nI (s + (c ++ c2 ++ [(sS (sg q), 0)]).length)) st' va')) ∧ (∀ i, i < s → st' i = st i ∧ va' i = va i) ∧ AtL (fun k o => opX k o (st' k) (va' k)) s (c ++ c2 ++ [(sS (sg q), 0)]) := by
          intro f st va hat
          obtain ⟨st', va', z1, z2, z3⟩ := k1 f st va
          refine ⟨upd st' (s + c.length + c2.length) (sg q), upd va' (s + c.length + c2.length) 0, ?_, fun j hj => ?_, ?_⟩
          · refine (operT hX hq (by omega) hop).trans ?_
            rw [z1, mbm_s, x_emit hemit, mbv_s, hl2, show s + c.length + c2.length + 1 = s + (c.length + c2.length + 1) by omega]
            rfl
          · rw [upd_n (by omega), upd_n (by omega)]
            exact z2 j (by omega)
          · refine AtL_app.mpr ⟨AtL_app.mpr ⟨AtL_mono (fun k o h1 h2 h3 => ?_) hat, AtL_mono (fun k o h1 h2 h3 => ?_) z3⟩, ?_, trivial⟩
            · show opX k o (upd st' _ _ k) (upd va' _ _ k)
              rw [upd_n (by omega), upd_n (by omega), (z2 k (by omega)).1, (z2 k (by omega)).2]
              exact h3
            · show opX k o (upd st' _ _ k) (upd va' _ _ k)
              rw [upd_n (by omega), upd_n (by omega)]
              exact h3
            · show opX (s + (c ++ c2).length) _ (upd st' _ _ (s + (c ++ c2).length)) (upd va' _ _ (s + (c ++ c2).length))
              rw [List.length_append, ← Nat.add_assoc, upd_s, upd_s]
              exact sS_opX hs0 _
        have hm1 : ∀ (f : Int32) (w b F ad mu : Nat) (c0 : List (Nat × Nat)) (nb : Int32) (cd wa : Nat → Int32), noM (tpO wa w) → b ≤ w → w ≤ p → 400 ≤ F + q → ad = 0 → pdg wa w ad mu → c = c0 ++ (pl mu ++ pl ad) → ∃ F2 ad2 mu2 c3 nb2 cd2 wa2, F ≤ F2 + (q2 - q) ∧ miter (fun z => md_readsSum_b14 z (nI b)) F (rM ν (nI q) f (nI a) (nI (s + c0.length)) (nI (w + (pl ad).length + (pl mu).length)) nb cd wa) = miter (fun z => md_readsSum_b14 z (nI b)) F2 (rM ν (nI q2) f (nI a) (nI (s + c3.length)) (nI (w + (pl ad2).length + (pl mu2).length)) nb2 cd2 wa2) ∧ ad2 = 0 ∧ pdg wa2 w ad2 mu2 ∧ c ++ c2 ++ [(sS (sg q), 0)] = c3 ++ (pl mu2 ++ pl ad2) ∧ (∀ i, i < s → cd2 i = cd i) ∧ (∀ i, i < w → wa2 i = wa i) ∧ (AtL (fun k o => cd k = enc o) s c0 → AtL (fun k o => cd2 k = enc o) s c3) := by
          intro f w b F ad mu c0 nb cd wa ht hb hw hF' hP hpd hcc
          obtain ⟨F2, rfl⟩ : ∃ F2, F = F2 + 1 := ⟨F - 1, by omega⟩
          have hlen : c.length = c0.length + (pl mu ++ pl ad).length := by rw [hcc, List.length_append]
          obtain ⟨cd1, d1, d2, d3⟩ := b14_mul' hM (f := f) (nb := nb) (cd := cd) (a := a) (b := b) (F := F2) hP hqN (s := s + c0.length) (by omega) (by omega) hop ht hpd
          rw [d1, show s + c0.length + (pl mu ++ pl ad).length = s + c.length by omega]
          obtain ⟨F3, ad3, mu3, c30, nb3, cd3, wa3, e1, e2, e3, e4, e5, e6, e7, e8⟩ := k2 f (w + 1) b FU F2 nb cd1 (upd wa w (nI (1048576 * sS (sg q)))) trivial (by omega) (by omega) (by unfold FU; omega) (by omega)
          have ew : wa3 w = nI (1048576 * sS (sg q)) := by rw [e7 w (by omega), upd_s]
          obtain ⟨rfl, rfl⟩ := e3
          refine ⟨F3, 0, sS (sg q), c ++ c30, nb3, cd3, wa3, by omega, ?_, rfl, ?_, ?_, fun j hj => by rw [e6 j (by omega), d2 j (by omega)], fun j hj => by rw [e7 j (by omega), upd_n (by omega)], fun hat => ?_⟩
          · rw [e2, List.length_append, ← Nat.add_assoc]
            rw [pl_n hs0]
            rfl
          · exact ⟨Or.inl rfl, Or.inr ⟨by have := sS_cs (sg q); omega, ew⟩⟩
          · rw [e5]
            rw [pl_n hs0, pl_0, List.append_nil, List.append_nil, List.append_nil]
          · rw [hcc] at e6 e8 ⊢
            rw [List.length_append] at e6 e8
            refine AtL_app.mpr ⟨AtL_app.mpr ⟨AtL_mono (fun k o h1 h2 h3 => ?_) hat, AtL_mono (fun k o h1 h2 h3 => ?_) d3⟩, ?_⟩
            · show cd3 k = enc o
              rw [e6 k (by omega), d2 k (by omega)]
              exact h3
            · show cd3 k = enc o
              rw [e6 k (by omega)]
              exact h3
            · rw [List.length_append]
              exact e8
        rcases ih q2 (c ++ c2 ++ [(sS (sg q), 0)]) (i + 1) (by omega) (by omega) q2N (by omega) (by omega) trivial hsm2 with ⟨φ, j1, j2⟩ | ⟨q3', c3, j0, j3, j4, j5, j6, j1, j2⟩
        · left
          refine ⟨φ, fun f st va Fx hFx => ?_, fun f w b F ad mu c0 nb cd wa ht hb hw hF' hP hpd hcc => ?_⟩
          · obtain ⟨F2, rfl⟩ : ∃ F2, Fx = F2 + 1 := ⟨Fx - 1, by omega⟩
            obtain ⟨st', va', z1, z2, z3⟩ := k1 f st va
            obtain ⟨p', k', st3, va3, y1, y2⟩ := j1 f (upd st' (s + c.length + c2.length) (sg q)) (upd va' (s + c.length + c2.length) 0) F2 (by omega)
            refine ⟨p', k', st3, va3, y1, miter_l ?_ y2⟩
            refine (operT hX hq (by omega) hop).trans ?_
            rw [z1, mbm_s, x_emit hemit, mbv_s, hl2, show s + c.length + c2.length + 1 = s + (c.length + c2.length + 1) by omega]
            rfl
          · obtain ⟨F2, ad2, mu2, c3, nb2, cd2, wa2, y1, y2, y3, y4, y5, y6, y7, y8⟩ := hm1 f w b F ad mu c0 nb cd wa ht hb hw hF' hP hpd hcc
            rw [y2]
            exact j2 f w b F2 ad2 mu2 c3 nb2 cd2 wa2 (by rw [tpO_cong y7]; exact ht) hb hw (by omega) y3 y4 y5
        · right
          refine ⟨q3', c3, by omega, j3, j4, j5, j6, fun f st va Fx hFx hat => ?_, fun f w b F ad mu c0 nb cd wa ht hb hw hF' hP hpd hcc hat => ?_⟩
          · obtain ⟨F2, rfl⟩ : ∃ F2, Fx = F2 + 1 := ⟨Fx - 1, by omega⟩
            obtain ⟨st', va', z1, z2, z3⟩ := hx1 f st va hat
            obtain ⟨st3, va3, y1, y2, y3⟩ := j1 f st' va' F2 (by omega) z3
            exact ⟨st3, va3, miter_l z1 y1, fun j hj => ⟨(y2 j hj).1.trans (z2 j hj).1, (y2 j hj).2.trans (z2 j hj).2⟩, y3⟩
          · obtain ⟨F2, ad2, mu2, c4, nb2, cd2, wa2, y1, y2, y3, y4, y5, y6, y7, y8⟩ := hm1 f w b F ad mu c0 nb cd wa ht hb hw hF' hP hpd hcc
            rw [y2]
            obtain ⟨F4, ad4, mu4, c5, nb4, cd4, wa4, x1, x2, x3, x4, x5, x6, x7, x8⟩ := j2 f w b F2 ad2 mu2 c4 nb2 cd2 wa2 (by rw [tpO_cong y7]; exact ht) hb hw (by omega) y3 y4 y5 (y8 hat)
            exact ⟨F4, ad4, mu4, c5, nb4, cd4, wa4, by omega, x2, x3, x4, x5, fun j hj => (x6 j hj).trans (y6 j hj), fun j hj => (x7 j hj).trans (y7 j hj), x8⟩
    · right
      refine ⟨q, c, Nat.le_refl _, hq, hc, (show sS (sg q) < 4 by omega), hsm, fun f st va Fx hFx hat => ?_, fun f w b F ad mu c0 nb cd wa ht hb hw hF' hP hpd hcc hat => ?_⟩
      · obtain ⟨F2, rfl⟩ : ∃ F2, Fx = F2 + 1 := ⟨Fx - 1, by omega⟩
        exact ⟨st, va, miter_r (stopT hX hq (by omega) hop), fun _ _ => ⟨rfl, rfl⟩, hat⟩
      · exact ⟨F, ad, mu, c0, nb, cd, wa, by omega, rfl, hP, hpd, hcc, fun _ _ => rfl, fun _ _ => rfl, hat⟩
theorem lvT_step (hX : txX μ N sg) (hM : txM ν N sg) {n : Nat} (hF : LvF μ ν N sg n) : LvT μ ν N sg (n + 1) := by
  intro a p s ha hn hs hp
  have hN := hX.2.1
  have un : ∀ M : Mm, vs_LawReading_rec (n + 1) 4 M (nI a) = mbm (vs_LawReading_rec n 5 M (nI a)) fun x1 μ2 => mbv (miter (fun q : Int32 × Int32 × Mm => vs_LawReading_readTerm_b8 (vs_LawReading_rec n) q.2.2 (nI a) q.1 q.2.1) FU (bI x1, 0, μ2)) (un2 fun x17 μ18 => mzr x17 fun b19 => some (b19, μ18)) := fun _ => rfl
  have hFU : 1000 < FU := by unfold FU; omega
  rcases hF a p s ha (by omega) hs hp with ⟨φ, k1, k2⟩ | ⟨q, c, q1, q2, q3, q4, q5, k1, k2⟩
  · left
    refine ⟨φ, fun f st va => ?_, fun f w b G F nb cd wa ht => k2 f w b G F nb cd wa trivial⟩
    obtain ⟨p', k', st', va', z1, z2⟩ := k1 f st va
    refine ⟨p', k', st', va', z1, ?_⟩
    rw [un, z2, mbm_s]
    have z : miter (fun q : Int32 × Int32 × Mm => vs_LawReading_readTerm_b8 (vs_LawReading_rec n) q.2.2 (nI a) q.1 q.2.1) FU (bI false, 0, xM μ p' (nI φ) (nI k') st' va') = some (0, xM μ p' (nI φ) (nI k') st' va') := miter_r (F := 1048575) zeroT
    rw [z, mbv_s, un2_p, mzr_0]
  · rcases loopT hX hM hF ha (by omega) hs (N - q) q c 0 (Nat.le_refl _) q1 q2 (by omega) q3 trivial (smE_up q5 (by omega)) with ⟨φ, j1, j2⟩ | ⟨q3', c3, j0, j3, j4, j5, j6, j1, j2⟩
    · left
      refine ⟨φ, fun f st va => ?_, fun f w b G F nb cd wa ht hb hw hG hF' => ?_⟩
      · obtain ⟨st', va', z1, z2, z3⟩ := k1 f st va
        obtain ⟨p', k', st3, va3, y1, y2⟩ := j1 f st' va' FU (by omega)
        refine ⟨p', k', st3, va3, y1, ?_⟩
        have y2 : miter (fun q : Int32 × Int32 × Mm => vs_LawReading_readTerm_b8 (vs_LawReading_rec n) q.2.2 (nI a) q.1 q.2.1) FU (bI true, 0, xM μ (nI q) f (nI (s + c.length)) st' va') = some (0, xM μ p' (nI φ) (nI k') st3 va3) := y2
        rw [un, z1, mbm_s, y2, mbv_s, un2_p, mzr_0]
      · obtain ⟨F', ad, mu, c0, nb', cd', wa', e1, e2, e3, e4, e5, e6, e7, e8⟩ := k2 f w b G F nb cd wa trivial hb hw hG hF'
        rw [e2]
        exact j2 f w b F' ad mu c0 nb' cd' wa' (by rw [tpO_cong e7]; exact ht) hb hw (by omega) e3.1 e4 e5
    · right
      refine ⟨q3', c3, by omega, j3, by omega, j5, j6, fun f st va => ?_, fun f w b G F nb cd wa ht hb hw hG hF' => ?_⟩
      · obtain ⟨st', va', z1, z2, z3⟩ := k1 f st va
        obtain ⟨st3, va3, y1, y2, y3⟩ := j1 f st' va' FU (by omega) z3
        refine ⟨st3, va3, ?_, fun j hj => ⟨(y2 j hj).1.trans (z2 j hj).1, (y2 j hj).2.trans (z2 j hj).2⟩, y3⟩
        have y1 : miter (fun q : Int32 × Int32 × Mm => vs_LawReading_readTerm_b8 (vs_LawReading_rec n) q.2.2 (nI a) q.1 q.2.1) FU (bI true, 0, xM μ (nI q) f (nI (s + c.length)) st' va') = some (1, xM μ (nI q3') f (nI (s + c3.length)) st3 va3) := y1
        rw [un, z1, mbm_s, y1, mbv_s, un2_p, mzr_1]
      · obtain ⟨F', ad, mu, c0, nb', cd', wa', e1, e2, e3, e4, e5, e6, e7, e8⟩ := k2 f w b G F nb cd wa trivial hb hw hG hF'
        rw [e2]
        obtain ⟨F4, ad4, mu4, c5, nb4, cd4, wa4, x1, x2, x3, x4, x5, x6, x7, x8⟩ := j2 f w b F' ad mu c0 nb' cd' wa' (by rw [tpO_cong e7]; exact ht) hb hw (by omega) e3.1 e4 e5 e8
        exact ⟨F4, ad4, mu4, c5, nb4, cd4, wa4, by omega, x2, x3, x4, x5, fun j hj => (x6 j hj).trans (e6 j hj), fun j hj => (x7 j hj).trans (e7 j hj), x8⟩
theorem stopS {n i : Nat} {a : Int32} (hX : txX μ N sg) {q : Nat} (hq : q ≤ N) (hi : i < 200) {f k : Int32} {st va : Nat → Int32} (h : ¬ (sS (sg q) = 2 ∨ sS (sg q) = 3)) : vs_LawReading_readSum_b8 (vs_LawReading_rec n) (xM μ (nI q) f k st va) a 1 (nI i) = some (.inr (1, xM μ (nI q) f k st va)) := by
  unfold vs_LawReading_readSum_b8
  rw [if_neg (show ¬ ((200 : Int32) ≤ nI i) from nI_ge (b := 200) hi (by decide)), if_neg (by decide), x_sign hX hq]
  simp only [mbv_s]
  rw [if_neg (show ¬ (sg q = 43) from fun z => h (by rw [z]; decide)), if_neg (show ¬ (sg q = 45) from fun z => h (by rw [z]; decide))]
theorem zeroS {n : Nat} {a i : Int32} {M : Mm} : vs_LawReading_readSum_b8 (vs_LawReading_rec n) M a 0 i = some (.inr (0, M)) := by
  unfold vs_LawReading_readSum_b8
  split
  · rfl
  · rw [if_pos rfl]
theorem operS {n i : Nat} {a : Int32} (hX : txX μ N sg) {q : Nat} (hq : q ≤ N) (hi : i < 200) {f k : Int32} {st va : Nat → Int32} (h : sS (sg q) = 2 ∨ sS (sg q) = 3) : vs_LawReading_readSum_b8 (vs_LawReading_rec n) (xM μ (nI q) f k st va) a 1 (nI i) = mbm (vs_LawReading_rec n 4 (xM μ (nI (q + 1)) f k st va) a) fun x9 μ10 => mbv (vs_Law_emit_sp μ10 (sg q) 0) fun μ12 => some (.inl (bI x9, nI (i + 1), μ12)) := by
  have j : vs_LawReading_readSum_j37 (vs_LawReading_rec n) (xM μ (nI q) f k st va) a (nI i) = mbm (vs_LawReading_rec n 4 (xM μ (nI (q + 1)) f k st va) a) fun x9 μ10 => mbv (vs_Law_emit_sp μ10 (sg q) 0) fun μ12 => some (.inl (bI x9, nI (i + 1), μ12)) := by
    unfold vs_LawReading_readSum_j37
    rw [x_sign hX hq, mbv_s, mst_s, xM_3, xMs3, nI_1, nI_1]
  unfold vs_LawReading_readSum_b8
  rw [if_neg (show ¬ ((200 : Int32) ≤ nI i) from nI_ge (b := 200) hi (by decide)), if_neg (by decide), x_sign hX hq]
  simp only [mbv_s]
  rw [j]
  rcases sS_cs (sg q) with ⟨h1, h2⟩ | ⟨h1, h2⟩ | ⟨h1, h2⟩ | ⟨h1, h2⟩ | ⟨h1, h2⟩ | ⟨h1, _⟩
  · rw [if_pos h1]
  · rw [if_neg (show ¬ (sg q = 43) by rw [h1]; decide), if_pos h1]
  · omega
  · omega
  · omega
  · omega
theorem loopS (hX : txX μ N sg) (hM : txM ν N sg) {n a p s : Nat} (hF : LvT μ ν N sg n) (ha : a ≤ 6) (hn : 3 * (7 - a) ≤ n + 1) (hs : s ≤ p) : ∀ (m q : Nat) (c : List (Nat × Nat)) (i : Nat), N - q ≤ m → p < q → q ≤ N → i < q → c.length ≤ q - p → (fun x => sS x < 4) (sg q) → smE (4 + 2 * (6 - a)) s c → (∃ φ, (∀ (f : Int32) (st va : Nat → Int32) (Fx : Nat), N - q + 1 < Fx → ∃ p' k' st' va', (k' ≤ 200 ∧ 0 < φ ∧ φ < 10000) ∧ miter (fun q : Int32 × Int32 × Mm => vs_LawReading_readSum_b8 (vs_LawReading_rec n) q.2.2 (nI a) q.1 q.2.1) Fx (1, nI i, xM μ (nI q) f (nI (s + c.length)) st va) = some (0, xM μ p' (nI φ) (nI k') st' va')) ∧ ∀ (f : Int32) (w b F ad mu : Nat) (c0 : List (Nat × Nat)) (nb : Int32) (cd wa : Nat → Int32), noS (tpO wa w) → b ≤ w → w ≤ p → 400 ≤ F + q → True → pdg wa w ad mu → c = c0 ++ (pl mu ++ pl ad) → mNo ν φ (fiN (nI b) (miter (fun z => md_readsSum_b14 z (nI b)) F (rM ν (nI q) f (nI a) (nI (s + c0.length)) (nI (w + (pl ad).length + (pl mu).length)) nb cd wa)))) ∨ ∃ q2 c2, q ≤ q2 ∧ q2 ≤ N ∧ c2.length ≤ q2 - p ∧ (fun x => sS x = 0) (sg q2) ∧ smE (4 + 2 * (6 - a)) s c2 ∧ (∀ (f : Int32) (st va : Nat → Int32) (Fx : Nat), N - q + 1 < Fx → AtL (fun k o => opX k o (st k) (va k)) s c → ∃ st' va', miter (fun q : Int32 × Int32 × Mm => vs_LawReading_readSum_b8 (vs_LawReading_rec n) q.2.2 (nI a) q.1 q.2.1) Fx (1, nI i, xM μ (nI q) f (nI (s + c.length)) st va) = some (1, xM μ (nI q2) f (nI (s + c2.length)) st' va') ∧ (∀ i, i < s → st' i = st i ∧ va' i = va i) ∧ AtL (fun k o => opX k o (st' k) (va' k)) s c2) ∧ ∀ (f : Int32) (w b F ad mu : Nat) (c0 : List (Nat × Nat)) (nb : Int32) (cd wa : Nat → Int32), noS (tpO wa w) → b ≤ w → w ≤ p → 400 ≤ F + q → True → pdg wa w ad mu → c = c0 ++ (pl mu ++ pl ad) → AtL (fun k o => cd k = enc o) s c0 → mOk ν (fun _ _ => True) f a q s w b F cd wa q2 c2 (miter (fun z => md_readsSum_b14 z (nI b)) F (rM ν (nI q) f (nI a) (nI (s + c0.length)) (nI (w + (pl ad).length + (pl mu).length)) nb cd wa)) := by
  intro m
  have hN := hX.2.1
  induction m with
  | zero =>
    intro q c i hm hpq hq hi hc hes hsm
    have hop : sS (sg q) = 0 := by rw [hX.2.2.2 q (by omega)]; decide
    have hno : ¬ (sS (sg q) = 2 ∨ sS (sg q) = 3) := by omega
    right
    refine ⟨q, c, Nat.le_refl _, hq, hc, hop, hsm, fun f st va Fx hFx hat => ?_, fun f w b F ad mu c0 nb cd wa ht hb hw hF' hP hpd hcc hat => ?_⟩
    · obtain ⟨F2, rfl⟩ : ∃ F2, Fx = F2 + 1 := ⟨Fx - 1, by omega⟩
      exact ⟨st, va, miter_r (stopS hX hq (by omega) hno), fun _ _ => ⟨rfl, rfl⟩, hat⟩
    · exact ⟨F, ad, mu, c0, nb, cd, wa, by omega, rfl, trivial, hpd, hcc, fun _ _ => rfl, fun _ _ => rfl, hat⟩
  | succ m ih =>
    intro q c i hm hpq hq hi hc hes hsm
    by_cases hop : sS (sg q) = 2 ∨ sS (sg q) = 3
    · have hqN : q < N := sg_lt hX (sS_m1 (by omega))
      have hs0 : sS (sg q) ≠ 0 := by omega
      rcases hF a (q + 1) (s + c.length) ha hn (by omega) (by omega) with ⟨φ, k1, k2⟩ | ⟨q2, c2, q1, q2N, q3, q4, q5, k1, k2⟩
      · left
        refine ⟨φ, fun f st va Fx hFx => ?_, fun f w b F ad mu c0 nb cd wa ht hb hw hF' hP hpd hcc => ?_⟩
        · obtain ⟨F2, rfl⟩ : ∃ F2, Fx = F2 + 1 + 1 := ⟨Fx - 2, by omega⟩
          obtain ⟨p', k', st', va', z1, z2⟩ := k1 f st va
          obtain ⟨s3, st3, va3, y1, y2⟩ := x_emitL (μ := μ) (p := p') (f := nI φ) (st := st') (va := va') (a1 := sg q) (a2 := 0) z1.1
          refine ⟨p', s3, st3, va3, ⟨y1, z1.2⟩, miter_l (q' := (0, nI (i + 1), xM μ p' (nI φ) (nI s3) st3 va3)) ?_ (miter_r zeroS)⟩
          refine (operS hX hq (by omega) hop).trans ?_
          rw [z2, mbm_s, y2, mbv_s]
          rfl
        · obtain ⟨F2, rfl⟩ : ∃ F2, F = F2 + 1 := ⟨F - 1, by omega⟩
          have hlen : c.length = c0.length + (pl mu ++ pl ad).length := by rw [hcc, List.length_append]
          obtain ⟨cd1, d1, d2, d3⟩ := b14_add hM (f := f) (nb := nb) (cd := cd) (a := a) (b := b) (F := F2)  hqN (s := s + c0.length) (by omega) (by omega) hop ht hpd
          rw [d1, show s + c0.length + (pl mu ++ pl ad).length = s + c.length by omega]
          exact k2 f (w + 1) b FU F2 nb cd1 (upd wa w (nI (1048576 * sS (sg q)))) (by rw [tpO_op (upd_s _ _ _) (by have := sS_cs (sg q); omega)]; rcases hop with h | h <;> rw [h] <;> exact Or.inl (by decide)) (by omega) (by omega) (by unfold FU; omega) (by omega)
      · have hemit : s + c.length + c2.length < 200 := by omega
        have hl2 : (c ++ c2 ++ [(sS (sg q), 0)]).length = c.length + c2.length + 1 := len3 _ _ _
        have hsm2 : smE (4 + 2 * (6 - a)) s (c ++ c2 ++ [(sS (sg q), 0)]) := smE_bin hsm q5 (by omega) (by omega) (by omega) (by omega) (by have := sS_cs (sg q); omega)
        have hx1 : ∀ (f : Int32) (st va : Nat → Int32), AtL (fun k o => opX k o (st k) (va k)) s c → ∃ st' va', vs_LawReading_readSum_b8 (vs_LawReading_rec n) (xM μ (nI q) f (nI (s + c.length)) st va) (nI a) 1 (nI i) = some (.inl (1, nI (i + 1), xM μ (nI q2) f (nI (s + (c ++ c2 ++ [(sS (sg q), 0)]).length)) st' va')) ∧ (∀ i, i < s → st' i = st i ∧ va' i = va i) ∧ AtL (fun k o => opX k o (st' k) (va' k)) s (c ++ c2 ++ [(sS (sg q), 0)]) := by
          intro f st va hat
          obtain ⟨st', va', z1, z2, z3⟩ := k1 f st va
          refine ⟨upd st' (s + c.length + c2.length) (sg q), upd va' (s + c.length + c2.length) 0, ?_, fun j hj => ?_, ?_⟩
          · refine (operS hX hq (by omega) hop).trans ?_
            rw [z1, mbm_s, x_emit hemit, mbv_s, hl2, show s + c.length + c2.length + 1 = s + (c.length + c2.length + 1) by omega]
            rfl
          · rw [upd_n (by omega), upd_n (by omega)]
            exact z2 j (by omega)
          · refine AtL_app.mpr ⟨AtL_app.mpr ⟨AtL_mono (fun k o h1 h2 h3 => ?_) hat, AtL_mono (fun k o h1 h2 h3 => ?_) z3⟩, ?_, trivial⟩
            · show opX k o (upd st' _ _ k) (upd va' _ _ k)
              rw [upd_n (by omega), upd_n (by omega), (z2 k (by omega)).1, (z2 k (by omega)).2]
              exact h3
            · show opX k o (upd st' _ _ k) (upd va' _ _ k)
              rw [upd_n (by omega), upd_n (by omega)]
              exact h3
            · show opX (s + (c ++ c2).length) _ (upd st' _ _ (s + (c ++ c2).length)) (upd va' _ _ (s + (c ++ c2).length))
              rw [List.length_append, ← Nat.add_assoc, upd_s, upd_s]
              exact sS_opX hs0 _
        have hm1 : ∀ (f : Int32) (w b F ad mu : Nat) (c0 : List (Nat × Nat)) (nb : Int32) (cd wa : Nat → Int32), noS (tpO wa w) → b ≤ w → w ≤ p → 400 ≤ F + q → True → pdg wa w ad mu → c = c0 ++ (pl mu ++ pl ad) → ∃ F2 ad2 mu2 c3 nb2 cd2 wa2, F ≤ F2 + (q2 - q) ∧ miter (fun z => md_readsSum_b14 z (nI b)) F (rM ν (nI q) f (nI a) (nI (s + c0.length)) (nI (w + (pl ad).length + (pl mu).length)) nb cd wa) = miter (fun z => md_readsSum_b14 z (nI b)) F2 (rM ν (nI q2) f (nI a) (nI (s + c3.length)) (nI (w + (pl ad2).length + (pl mu2).length)) nb2 cd2 wa2) ∧ True ∧ pdg wa2 w ad2 mu2 ∧ c ++ c2 ++ [(sS (sg q), 0)] = c3 ++ (pl mu2 ++ pl ad2) ∧ (∀ i, i < s → cd2 i = cd i) ∧ (∀ i, i < w → wa2 i = wa i) ∧ (AtL (fun k o => cd k = enc o) s c0 → AtL (fun k o => cd2 k = enc o) s c3) := by
          intro f w b F ad mu c0 nb cd wa ht hb hw hF' hP hpd hcc
          obtain ⟨F2, rfl⟩ : ∃ F2, F = F2 + 1 := ⟨F - 1, by omega⟩
          have hlen : c.length = c0.length + (pl mu ++ pl ad).length := by rw [hcc, List.length_append]
          obtain ⟨cd1, d1, d2, d3⟩ := b14_add hM (f := f) (nb := nb) (cd := cd) (a := a) (b := b) (F := F2)  hqN (s := s + c0.length) (by omega) (by omega) hop ht hpd
          rw [d1, show s + c0.length + (pl mu ++ pl ad).length = s + c.length by omega]
          obtain ⟨F3, ad3, mu3, c30, nb3, cd3, wa3, e1, e2, e3, e4, e5, e6, e7, e8⟩ := k2 f (w + 1) b FU F2 nb cd1 (upd wa w (nI (1048576 * sS (sg q)))) (by rw [tpO_op (upd_s _ _ _) (by have := sS_cs (sg q); omega)]; rcases hop with h | h <;> rw [h] <;> exact Or.inl (by decide)) (by omega) (by omega) (by unfold FU; omega) (by omega)
          have ew : wa3 w = nI (1048576 * sS (sg q)) := by rw [e7 w (by omega), upd_s]
          have e3 : ad3 = 0 := e3
          subst e3
          refine ⟨F3, sS (sg q), mu3, c ++ c30, nb3, cd3, wa3, by omega, ?_, trivial, ?_, ?_, fun j hj => by rw [e6 j (by omega), d2 j (by omega)], fun j hj => by rw [e7 j (by omega), upd_n (by omega)], fun hat => ?_⟩
          · rw [e2, List.length_append, ← Nat.add_assoc]
            rw [pl_n hs0]
            rfl
          · exact ⟨Or.inr ⟨hop, ew⟩, by rw [pl_n hs0]; exact e4.2⟩
          · rw [e5]
            rw [pl_n hs0, pl_0, List.append_nil, List.append_assoc, List.append_assoc, List.append_assoc]
          · rw [hcc] at e6 e8 ⊢
            rw [List.length_append] at e6 e8
            refine AtL_app.mpr ⟨AtL_app.mpr ⟨AtL_mono (fun k o h1 h2 h3 => ?_) hat, AtL_mono (fun k o h1 h2 h3 => ?_) d3⟩, ?_⟩
            · show cd3 k = enc o
              rw [e6 k (by omega), d2 k (by omega)]
              exact h3
            · show cd3 k = enc o
              rw [e6 k (by omega)]
              exact h3
            · rw [List.length_append]
              exact e8
        rcases ih q2 (c ++ c2 ++ [(sS (sg q), 0)]) (i + 1) (by omega) (by omega) q2N (by omega) (by omega) q4 hsm2 with ⟨φ, j1, j2⟩ | ⟨q3', c3, j0, j3, j4, j5, j6, j1, j2⟩
        · left
          refine ⟨φ, fun f st va Fx hFx => ?_, fun f w b F ad mu c0 nb cd wa ht hb hw hF' hP hpd hcc => ?_⟩
          · obtain ⟨F2, rfl⟩ : ∃ F2, Fx = F2 + 1 := ⟨Fx - 1, by omega⟩
            obtain ⟨st', va', z1, z2, z3⟩ := k1 f st va
            obtain ⟨p', k', st3, va3, y1, y2⟩ := j1 f (upd st' (s + c.length + c2.length) (sg q)) (upd va' (s + c.length + c2.length) 0) F2 (by omega)
            refine ⟨p', k', st3, va3, y1, miter_l ?_ y2⟩
            refine (operS hX hq (by omega) hop).trans ?_
            rw [z1, mbm_s, x_emit hemit, mbv_s, hl2, show s + c.length + c2.length + 1 = s + (c.length + c2.length + 1) by omega]
            rfl
          · obtain ⟨F2, ad2, mu2, c3, nb2, cd2, wa2, y1, y2, y3, y4, y5, y6, y7, y8⟩ := hm1 f w b F ad mu c0 nb cd wa ht hb hw hF' hP hpd hcc
            rw [y2]
            exact j2 f w b F2 ad2 mu2 c3 nb2 cd2 wa2 (by rw [tpO_cong y7]; exact ht) hb hw (by omega) y3 y4 y5
        · right
          refine ⟨q3', c3, by omega, j3, j4, j5, j6, fun f st va Fx hFx hat => ?_, fun f w b F ad mu c0 nb cd wa ht hb hw hF' hP hpd hcc hat => ?_⟩
          · obtain ⟨F2, rfl⟩ : ∃ F2, Fx = F2 + 1 := ⟨Fx - 1, by omega⟩
            obtain ⟨st', va', z1, z2, z3⟩ := hx1 f st va hat
            obtain ⟨st3, va3, y1, y2, y3⟩ := j1 f st' va' F2 (by omega) z3
            exact ⟨st3, va3, miter_l z1 y1, fun j hj => ⟨(y2 j hj).1.trans (z2 j hj).1, (y2 j hj).2.trans (z2 j hj).2⟩, y3⟩
          · obtain ⟨F2, ad2, mu2, c4, nb2, cd2, wa2, y1, y2, y3, y4, y5, y6, y7, y8⟩ := hm1 f w b F ad mu c0 nb cd wa ht hb hw hF' hP hpd hcc
            rw [y2]
            obtain ⟨F4, ad4, mu4, c5, nb4, cd4, wa4, x1, x2, x3, x4, x5, x6, x7, x8⟩ := j2 f w b F2 ad2 mu2 c4 nb2 cd2 wa2 (by rw [tpO_cong y7]; exact ht) hb hw (by omega) y3 y4 y5 (y8 hat)
            exact ⟨F4, ad4, mu4, c5, nb4, cd4, wa4, by omega, x2, x3, x4, x5, fun j hj => (x6 j hj).trans (y6 j hj), fun j hj => (x7 j hj).trans (y7 j hj), x8⟩
    · right
      refine ⟨q, c, Nat.le_refl _, hq, hc, (show sS (sg q) = 0 by have : sS (sg q) < 4 := hes; have := sS_cs (sg q); omega), hsm, fun f st va Fx hFx hat => ?_, fun f w b F ad mu c0 nb cd wa ht hb hw hF' hP hpd hcc hat => ?_⟩
      · obtain ⟨F2, rfl⟩ : ∃ F2, Fx = F2 + 1 := ⟨Fx - 1, by omega⟩
        exact ⟨st, va, miter_r (stopS hX hq (by omega) hop), fun _ _ => ⟨rfl, rfl⟩, hat⟩
      · exact ⟨F, ad, mu, c0, nb, cd, wa, by omega, rfl, trivial, hpd, hcc, fun _ _ => rfl, fun _ _ => rfl, hat⟩
theorem lvS_step (hX : txX μ N sg) (hM : txM ν N sg) {n : Nat} (hF : LvT μ ν N sg n) : LvS μ ν N sg (n + 1) := by
  intro a p s ha hn hs hp
  have hN := hX.2.1
  have un : ∀ M : Mm, vs_LawReading_rec (n + 1) 3 M (nI a) = mbm (vs_LawReading_rec n 4 M (nI a)) fun x1 μ2 => mbv (miter (fun q : Int32 × Int32 × Mm => vs_LawReading_readSum_b8 (vs_LawReading_rec n) q.2.2 (nI a) q.1 q.2.1) FU (bI x1, 0, μ2)) (un2 fun x17 μ18 => mzr x17 fun b19 => some (b19, μ18)) := fun _ => rfl
  have hFU : 1000 < FU := by unfold FU; omega
  rcases hF a p s ha (by omega) hs hp with ⟨φ, k1, k2⟩ | ⟨q, c, q1, q2, q3, q4, q5, k1, k2⟩
  · left
    refine ⟨φ, fun f st va => ?_, fun f w b G F nb cd wa ht => k2 f w b G F nb cd wa ht.1⟩
    obtain ⟨p', k', st', va', z1, z2⟩ := k1 f st va
    refine ⟨p', k', st', va', z1, ?_⟩
    rw [un, z2, mbm_s]
    have z : miter (fun q : Int32 × Int32 × Mm => vs_LawReading_readSum_b8 (vs_LawReading_rec n) q.2.2 (nI a) q.1 q.2.1) FU (bI false, 0, xM μ p' (nI φ) (nI k') st' va') = some (0, xM μ p' (nI φ) (nI k') st' va') := miter_r (F := 1048575) zeroS
    rw [z, mbv_s, un2_p, mzr_0]
  · rcases loopS hX hM hF ha (by omega) hs (N - q) q c 0 (Nat.le_refl _) q1 q2 (by omega) q3 q4 (smE_up q5 (by omega)) with ⟨φ, j1, j2⟩ | ⟨q3', c3, j0, j3, j4, j5, j6, j1, j2⟩
    · left
      refine ⟨φ, fun f st va => ?_, fun f w b G F nb cd wa ht hb hw hG hF' => ?_⟩
      · obtain ⟨st', va', z1, z2, z3⟩ := k1 f st va
        obtain ⟨p', k', st3, va3, y1, y2⟩ := j1 f st' va' FU (by omega)
        refine ⟨p', k', st3, va3, y1, ?_⟩
        have y2 : miter (fun q : Int32 × Int32 × Mm => vs_LawReading_readSum_b8 (vs_LawReading_rec n) q.2.2 (nI a) q.1 q.2.1) FU (bI true, 0, xM μ (nI q) f (nI (s + c.length)) st' va') = some (0, xM μ p' (nI φ) (nI k') st3 va3) := y2
        rw [un, z1, mbm_s, y2, mbv_s, un2_p, mzr_0]
      · obtain ⟨F', ad, mu, c0, nb', cd', wa', e1, e2, e3, e4, e5, e6, e7, e8⟩ := k2 f w b G F nb cd wa ht.1 hb hw hG hF'
        rw [e2]
        exact j2 f w b F' ad mu c0 nb' cd' wa' (by rw [tpO_cong e7]; exact ht) hb hw (by omega) trivial e4 e5
    · right
      refine ⟨q3', c3, by omega, j3, by omega, j5, j6, fun f st va => ?_, fun f w b G F nb cd wa ht hb hw hG hF' => ?_⟩
      · obtain ⟨st', va', z1, z2, z3⟩ := k1 f st va
        obtain ⟨st3, va3, y1, y2, y3⟩ := j1 f st' va' FU (by omega) z3
        refine ⟨st3, va3, ?_, fun j hj => ⟨(y2 j hj).1.trans (z2 j hj).1, (y2 j hj).2.trans (z2 j hj).2⟩, y3⟩
        have y1 : miter (fun q : Int32 × Int32 × Mm => vs_LawReading_readSum_b8 (vs_LawReading_rec n) q.2.2 (nI a) q.1 q.2.1) FU (bI true, 0, xM μ (nI q) f (nI (s + c.length)) st' va') = some (1, xM μ (nI q3') f (nI (s + c3.length)) st3 va3) := y1
        rw [un, z1, mbm_s, y1, mbv_s, un2_p, mzr_1]
      · obtain ⟨F', ad, mu, c0, nb', cd', wa', e1, e2, e3, e4, e5, e6, e7, e8⟩ := k2 f w b G F nb cd wa ht.1 hb hw hG hF'
        rw [e2]
        obtain ⟨F4, ad4, mu4, c5, nb4, cd4, wa4, x1, x2, x3, x4, x5, x6, x7, x8⟩ := j2 f w b F' ad mu c0 nb' cd' wa' (by rw [tpO_cong e7]; exact ht) hb hw (by omega) trivial e4 e5 e8
        exact ⟨F4, ad4, mu4, c5, nb4, cd4, wa4, by omega, x2, x3, x4, x5, fun j hj => (x6 j hj).trans (e6 j hj), fun j hj => (x7 j hj).trans (e7 j hj), x8⟩
theorem lv_all (hX : txX μ N sg) (hM : txM ν N sg) : ∀ n, LvF μ ν N sg n ∧ LvT μ ν N sg n ∧ LvS μ ν N sg n
  | 0 => ⟨fun a p s ha hn => by omega, fun a p s ha hn => by omega, fun a p s ha hn => by omega⟩
  | n + 1 => by
    obtain ⟨h1, h2, h3⟩ := lv_all hX hM n
    exact ⟨lvF_step hX hM h3, lvT_step hX hM h1, lvS_step hX hM h2⟩
end
