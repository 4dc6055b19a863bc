/-! reading a test -/
def cOk (ν : Mm) (P : Option Nat → Option Nat → Prop) (f : Int32) (a p s w F : Nat) (cd wa : Nat → Int32) (q : Nat) (c : List (Nat × Nat)) (r : Option (Mm ⊕ Mm ⊕ Mm ⊕ Mm)) : Prop := ∃ G' F' ji jn nb' cd' wa', FU ≤ G' + q ∧ F ≤ F' + (q - p) ∧ r = cA G' F' (rM ν (nI q) f (nI a) (nI (s + c.length)) (nI (w + ol ji + ol jn)) nb' cd' wa') ∧ P ji jn ∧ pdj wa' cd' s w (s + c.length) ji jn ∧ (∀ i, i < s → cd' i = cd i) ∧ (∀ i, i < w → wa' i = wa i) ∧ AtL (atJ cd' (s + c.length) ji jn) s c
def LvJ (μ ν : Mm) (N : Nat) (sg : Nat → Int32) (n j h : Nat) (P : Option Nat → Option Nat → Prop) (T E : Int32 → Prop) : Prop := ∀ a p s, a ≤ 6 → 3 * (7 - a) + h ≤ n → s ≤ p → p ≤ N → (∃ φ, (∀ f st va, xNo μ φ (vs_LawReading_rec n j (xM μ (nI p) f (nI s) st va) (nI a))) ∧ ∀ f w F nb cd wa, T (tpO wa w) → 1 ≤ w → w ≤ p → 400 ≤ F + p → mNo ν φ (cFin (cH F (rM ν (nI p) f (nI a) (nI s) (nI w) nb cd wa)))) ∨ ∃ q c, p < q ∧ q ≤ N ∧ c.length ≤ q - p ∧ E (sg q) ∧ smC (6 + 2 * (6 - a)) s c ∧ (∀ f st va, xOk μ f s st va q c (vs_LawReading_rec n j (xM μ (nI p) f (nI s) st va) (nI a))) ∧ ∀ f w F nb cd wa, T (tpO wa w) → 1 ≤ w → w ≤ p → 400 ≤ F + p → cOk ν P f a p s w F cd wa q c (cH F (rM ν (nI p) f (nI a) (nI s) (nI w) nb cd wa))
def Lv0 (μ ν : Mm) (N : Nat) (sg : Nat → Int32) (n : Nat) : Prop := ∀ a p s, a ≤ 6 → 3 * (7 - a) + 1 ≤ n → s ≤ p → p ≤ N → (∃ φ, (∀ f st va, xNo μ φ (vs_LawReading_rec n 2 (xM μ (nI p) f (nI s) st va) (nI a))) ∧ ∀ f w F nb cd wa, noS (tpO wa w) → 1 ≤ w → w ≤ p → 400 ≤ F + p → mNo ν φ (cFin (cH F (rM ν (nI p) f (nI a) (nI s) (nI w) nb cd wa)))) ∨ ∃ q c, p < q ∧ q ≤ N ∧ c.length ≤ q - p ∧ smC (6 + 2 * (6 - a)) s c ∧ (∀ f st va, xOk μ f s st va q c (vs_LawReading_rec n 2 (xM μ (nI p) f (nI s) st va) (nI a))) ∧ ∀ f w F nb cd wa, noS (tpO wa w) → 1 ≤ w → w ≤ p → 400 ≤ F + p → ∃ J' G' F' nb' cd' wa', FU ≤ J' + (q - p) ∧ FU ≤ G' + q ∧ F ≤ F' + (q - p) ∧ cH F (rM ν (nI p) f (nI a) (nI s) (nI w) nb cd wa) = cE J' G' F' (rM ν (nI q) f (nI a) (nI (s + c.length)) (nI w) nb' cd' wa') ∧ (∀ i, i < s → cd' i = cd i) ∧ (∀ i, i < w → wa' i = wa i) ∧ AtL (fun k o => cd' k = enc o) s c
def LvP (μ ν : Mm) (N : Nat) (sg : Nat → Int32) (n : Nat) : Prop := LvJ μ ν N sg n 2 1 (fun ji jn => ji = none ∧ jn = none) (fun t => noS t ∧ t ≠ 10) (fun _ => True)
def LvQ (μ ν : Mm) (N : Nat) (sg : Nat → Int32) (n : Nat) : Prop := LvJ μ ν N sg n 1 2 (fun ji _ => ji = none) (fun t => noS t ∧ t ≠ 10 ∧ t ≠ 11) (fun x => x ≠ 38)
def LvC (μ ν : Mm) (N : Nat) (sg : Nat → Int32) (n : Nat) : Prop := LvJ μ ν N sg n 0 3 (fun _ _ => True) (fun t => noS t ∧ t ≠ 10 ∧ t ≠ 11 ∧ t ≠ 12) (fun x => x ≠ 38 ∧ x ≠ 124)
section
variable {ν μ : Mm} {N : Nat} {sg : Nat → Int32}
theorem lvP_of (hX : txX μ N sg) {n : Nat} (h0 : Lv0 μ ν N sg n) : LvP μ ν N sg n := by
  intro a p s ha hn hs hp
  have hN := hX.2.1
  have hFU : 1000 < FU := by unfold FU; omega
  rcases h0 a p s ha hn hs hp with ⟨φ, k1, k2⟩ | ⟨q, c, q1, q2, q3, q5, k1, k2⟩
  · exact Or.inl ⟨φ, k1, fun f w F nb cd wa ht => k2 f w F nb cd wa ht.1⟩
  · right
    refine ⟨q, c, q1, q2, q3, trivial, q5, k1, fun f w F nb cd wa ht h1 hw hF => ?_⟩
    obtain ⟨J', G', F', nb', cd', wa', e1, e2, e3, e4, e5, e6, e7⟩ := k2 f w F nb cd wa ht.1 h1 hw hF
    refine ⟨G', F', none, none, nb', cd', wa', e2, e3, ?_, ⟨rfl, rfl⟩, ⟨fun j z => (nomatch z), fun j z => (nomatch z)⟩, e5, e6, atJ_0 e7⟩
    obtain ⟨J2, rfl⟩ : ∃ J2, J' = J2 + 1 := ⟨J' - 1, by omega⟩
    rw [e4]
    unfold cE
    rw [ep_stop (by omega) (by rw [tpO_cong e6]; exact ht.2), mbv_s]
    rfl
theorem noS_n {m : Nat} (h : 10 ≤ m) (h2 : m ≤ 14) : noS (nI m) := by
  refine ⟨Or.inr (nI_ge (b := m) (a := 6) (by omega) (by omega)), fun z => ?_, fun z => ?_⟩
  · have := (nI_eq (b := 2) (by omega) (by decide)).mp z; omega
  · have := (nI_eq (b := 3) (by omega) (by decide)).mp z; omega
theorem stopQ {n i : Nat} {a : Int32} (hX : txX μ N sg) {q : Nat} (hq : q ≤ N) (hi : i < 200) {f k : Int32} {st va : Nat → Int32} (h : ¬ (sg q = 38)) : vs_LawReading_readPart_b8 (vs_LawReading_rec n) (xM μ (nI q) f k st va) a 1 (nI i) = some (.inr (1, xM μ (nI q) f k st va)) := by
  unfold vs_LawReading_readPart_b8
  rw [if_neg (show ¬ ((200 : Int32) ≤ nI i) from nI_ge (b := 200) hi (by decide)), if_neg (by decide), x_sign hX hq, mbv_s, if_neg h]
theorem zeroQ {n : Nat} {a i : Int32} {M : Mm} : vs_LawReading_readPart_b8 (vs_LawReading_rec n) M a 0 i = some (.inr (0, M)) := by
  unfold vs_LawReading_readPart_b8
  split
  · rfl
  · rw [if_pos rfl]
theorem operQ {n i e : Nat} {a : Int32} (hX : txX μ N sg) {q : Nat} (hq : q ≤ N) (hi : i < 200) (he : e < 200) {f : Int32} {st va : Nat → Int32} (h : sg q = 38) : vs_LawReading_readPart_b8 (vs_LawReading_rec n) (xM μ (nI q) f (nI e) st va) a 1 (nI i) = mbm (vs_LawReading_rec n 2 (xM μ (nI (q + 1)) f (nI (e + 1)) (upd st e 3) (upd va e 0)) a) fun x10 μ11 => mbv (vs_Law_aimHere_sp μ11 (nI e)) fun μ13 => some (.inl (bI x10, nI (i + 1), μ13)) := by
  unfold vs_LawReading_readPart_b8
  rw [if_neg (show ¬ ((200 : Int32) ≤ nI i) from nI_ge (b := 200) hi (by decide)), if_neg (by decide), x_sign hX hq, mbv_s, if_pos h, mst_s, xM_3, xMs3, x_emit he, mbv_s, xM_7, nI_1, nI_1]
theorem loopQ (hX : txX μ N sg) (hM : txM ν N sg) {n a p s : Nat} (hF : LvP μ ν N sg n) (ha : a ≤ 6) (hn : 3 * (7 - a) + 1 ≤ n) (hs : s ≤ p) : ∀ (m q : Nat) (c : List (Nat × Nat)) (i : Nat), N - q ≤ m → p < q → q ≤ N → i < q → c.length ≤ q - p → (fun _ : Int32 => True) (sg q) → smC (6 + 2 * (6 - a)) s c → (∃ φ, (∀ (f : Int32) (st va : Nat → Int32) (Fx : Nat), N - q + 1 < Fx → ∃ p' k' st' va', (k' ≤ 200 ∧ 0 < φ ∧ φ < 10000) ∧ miter (fun q : Int32 × Int32 × Mm => vs_LawReading_readPart_b8 (vs_LawReading_rec n) q.2.2 (nI a) q.1 q.2.1) Fx (1, nI i, xM μ (nI q) f (nI (s + c.length)) st va) = some (0, xM μ p' (nI φ) (nI k') st' va')) ∧ ∀ (f : Int32) (w G F : Nat) (ji jn : Option Nat) (nb : Int32) (cd wa : Nat → Int32), (fun t : Int32 => noS t ∧ t ≠ 10 ∧ t ≠ 11) (tpO wa w) → 1 ≤ w → w ≤ p → FU ≤ G + q → 400 ≤ F + q → (fun ji _ => ji = none) ji jn → pdj wa cd s w (s + c.length) ji jn → AtL (atJ cd (s + c.length) ji jn) s c → mNo ν φ (cFin (cA G F (rM ν (nI q) f (nI a) (nI (s + c.length)) (nI (w + ol ji + ol jn)) nb cd wa)))) ∨ ∃ q2 c2, q ≤ q2 ∧ q2 ≤ N ∧ c2.length ≤ q2 - p ∧ (fun x : Int32 => x ≠ 38) (sg q2) ∧ smC (6 + 2 * (6 - a)) s c2 ∧ (∀ (f : Int32) (st va : Nat → Int32) (Fx : Nat), N - q + 1 < Fx → AtL (fun k o => opX k o (st k) (va k)) s c → ∃ st' va', miter (fun q : Int32 × Int32 × Mm => vs_LawReading_readPart_b8 (vs_LawReading_rec n) q.2.2 (nI a) q.1 q.2.1) Fx (1, nI i, xM μ (nI q) f (nI (s + c.length)) st va) = some (1, xM μ (nI q2) f (nI (s + c2.length)) st' va') ∧ (∀ i, i < s → st' i = st i ∧ va' i = va i) ∧ AtL (fun k o => opX k o (st' k) (va' k)) s c2) ∧ ∀ (f : Int32) (w G F : Nat) (ji jn : Option Nat) (nb : Int32) (cd wa : Nat → Int32), (fun t : Int32 => noS t ∧ t ≠ 10 ∧ t ≠ 11) (tpO wa w) → 1 ≤ w → w ≤ p → FU ≤ G + q → 400 ≤ F + q → (fun ji _ => ji = none) ji jn → pdj wa cd s w (s + c.length) ji jn → AtL (atJ cd (s + c.length) ji jn) s c → cOk ν (fun ji _ => ji = none) f a q s w F cd wa q2 c2 (cA G F (rM ν (nI q) f (nI a) (nI (s + c.length)) (nI (w + ol ji + ol jn)) nb cd wa)) := by
  intro m
  have hN := hX.2.1
  have hFU : 1000 < FU := by unfold FU; omega
  induction m with
  | zero =>
    intro q c i hm hpq hq hi hc hes hsm
    have hm1 : sg q = -1 := hX.2.2.2 q (by omega)
    have hno : ¬ (sg q = 38) := by rw [hm1]; decide
    right
    refine ⟨q, c, Nat.le_refl _, hq, hc, hno, hsm, fun f st va Fx hFx hat => ?_, fun f w G F ji jn nb cd wa ht h1 hw hG hF' hP hpd hat => ?_⟩
    · obtain ⟨F2, rfl⟩ : ∃ F2, Fx = F2 + 1 := ⟨Fx - 1, by omega⟩
      exact ⟨st, va, miter_r (stopQ hX hq (by omega) hno), fun _ _ => ⟨rfl, rfl⟩, hat⟩
    · exact ⟨G, F, ji, jn, nb, cd, wa, hG, by omega, rfl, hP, hpd, fun _ _ => rfl, fun _ _ => rfl, hat⟩
  | succ m ih =>
    intro q c i hm hpq hq hi hc hes hsm
    by_cases hop : sg q = 38
    · have hqN : q < N := sg_lt hX (by rw [hop]; decide)
      have he : s + c.length < 200 := by omega
      rcases hF a (q + 1) (s + c.length + 1) ha hn (by omega) (by omega) with ⟨φ, k1, k2⟩ | ⟨q2, c2, q1, q2N, q3, q4, q5, k1, k2⟩
      · left
        refine ⟨φ, fun f st va Fx hFx => ?_, fun f w G F ji jn nb cd wa ht h1 hw hG hF' hP hpd hat => ?_⟩
        · obtain ⟨F2, rfl⟩ : ∃ F2, Fx = F2 + 1 + 1 := ⟨Fx - 2, by omega⟩
          obtain ⟨p', k', st', va', z1, z2⟩ := k1 f (upd st (s + c.length) 3) (upd va (s + c.length) 0)
          refine ⟨p', k', st', upd va' (s + c.length) (nI k'), z1, miter_l (q' := (0, nI (i + 1), xM μ p' (nI φ) (nI k') st' (upd va' (s + c.length) (nI k')))) ?_ (miter_r zeroQ)⟩
          refine (operQ hX hq (by omega) he hop).trans ?_
          rw [z2, mbm_s, x_aim he, mbv_s]
          rfl
        · obtain ⟨G2, rfl⟩ : ∃ G2, G = G2 + 1 := ⟨G - 1, by omega⟩
          obtain ⟨cd1, d1, d2, d3⟩ := cA_and hM (f := f) (o := nI a) (nb := nb) (G := G2) (F := F) hP hq (by omega) (by omega) hop ht.2.2 hpd hat
          rw [d1]
          exact k2 f (w + 1) F nb _ _ (by rw [tpO_j (upd_s _ _ _) (by omega) (by decide)]; exact ⟨noS_n (by decide) (by decide), by decide⟩) (by omega) (by omega) (by omega)
      · have hl2 : (c ++ (11, s + c.length + 1 + c2.length) :: c2).length = c.length + 1 + c2.length := by rw [List.length_append, List.length_cons]; omega
        have hsm2 : smC (6 + 2 * (6 - a)) s (c ++ (11, s + c.length + 1 + c2.length) :: c2) := smC_jmp hsm q5 (by omega) (by decide)
        have hel : s + (c ++ (11, s + c.length + 1 + c2.length) :: c2).length = s + c.length + 1 + c2.length := by omega
        have hx0 : ∀ (f : Int32) (st va : Nat → Int32), ∃ st' va', vs_LawReading_readPart_b8 (vs_LawReading_rec n) (xM μ (nI q) f (nI (s + c.length)) st va) (nI a) 1 (nI i) = some (.inl (1, nI (i + 1), xM μ (nI q2) f (nI (s + (c ++ (11, s + c.length + 1 + c2.length) :: c2).length)) st' va')) ∧ (∀ i, i < s → st' i = st i ∧ va' i = va i) ∧ (AtL (fun k o => opX k o (st k) (va k)) s c → AtL (fun k o => opX k o (st' k) (va' k)) s (c ++ (11, s + c.length + 1 + c2.length) :: c2)) := by
          intro f st va
          obtain ⟨st', va', z1, z2, z3⟩ := k1 f (upd st (s + c.length) 3) (upd va (s + c.length) 0)
          refine ⟨st', upd va' (s + c.length) (nI (s + c.length + 1 + c2.length)), ?_, fun j hj => ?_, fun hat => ?_⟩
          · refine (operQ hX hq (by omega) he hop).trans ?_
            rw [z1, mbm_s, x_aim he, mbv_s, hel]
            rfl
          · have := z2 j (by omega)
            rw [upd_n (by omega)] at this
            rw [upd_n (by omega), this.1, this.2, upd_n (by omega)]
            exact ⟨rfl, rfl⟩
          · refine AtL_app.mpr ⟨AtL_mono (fun k o h1 h2 h3 => ?_) hat, ?_, AtL_mono (fun k o h1 h2 h3 => ?_) z3⟩
            · show opX k o (st' k) (upd va' _ _ k)
              have := z2 k (by omega)
              rw [upd_n (by omega)] at this
              rw [upd_n (by omega), this.1, this.2, upd_n (by omega)]
              exact h3
            · show opX (s + c.length) (11, s + c.length + 1 + c2.length) (st' (s + c.length)) (upd va' _ _ (s + c.length))
              rw [upd_s, (z2 (s + c.length) (by omega)).1, upd_s]
              exact ⟨rfl, by show s + c.length + 1 + c2.length < 1048576; omega, Or.inr (Or.inr (Or.inr (Or.inr (Or.inr (Or.inr (Or.inr (Or.inr (Or.inr (Or.inr (Or.inr (Or.inl ⟨rfl, rfl, rfl, by show s + c.length < s + c.length + 1 + c2.length; omega, by show s + c.length + 1 + c2.length ≤ 200; omega⟩)))))))))))⟩
            · show opX k o (st' k) (upd va' _ _ k)
              rw [upd_n (by omega)]
              exact h3
        have hm1 : ∀ (f : Int32) (w G F : Nat) (ji jn : Option Nat) (nb : Int32) (cd wa : Nat → Int32), (fun t : Int32 => noS t ∧ t ≠ 10 ∧ t ≠ 11) (tpO wa w) → 1 ≤ w → w ≤ p → FU ≤ G + q → 400 ≤ F + q → (fun ji _ => ji = none) ji jn → pdj wa cd s w (s + c.length) ji jn → AtL (atJ cd (s + c.length) ji jn) s c → ∃ G2 F2 ji2 jn2 nb2 cd2 wa2, FU ≤ G2 + q2 ∧ F ≤ F2 + (q2 - q) ∧ cA G F (rM ν (nI q) f (nI a) (nI (s + c.length)) (nI (w + ol ji + ol jn)) nb cd wa) = cA G2 F2 (rM ν (nI q2) f (nI a) (nI (s + (c ++ (11, s + c.length + 1 + c2.length) :: c2).length)) (nI (w + ol ji2 + ol jn2)) nb2 cd2 wa2) ∧ (fun ji _ => ji = none) ji2 jn2 ∧ pdj wa2 cd2 s w (s + (c ++ (11, s + c.length + 1 + c2.length) :: c2).length) ji2 jn2 ∧ (∀ i, i < s → cd2 i = cd i) ∧ (∀ i, i < w → wa2 i = wa i) ∧ AtL (atJ cd2 (s + (c ++ (11, s + c.length + 1 + c2.length) :: c2).length) ji2 jn2) s (c ++ (11, s + c.length + 1 + c2.length) :: c2) := by
          intro f w G F ji jn nb cd wa ht h1 hw hG hF' hP hpd hat
          obtain ⟨G2, rfl⟩ : ∃ G2, G = G2 + 1 := ⟨G - 1, by omega⟩
          obtain ⟨cd1, d1, d2, d3⟩ := cA_and hM (f := f) (o := nI a) (nb := nb) (G := G2) (F := F) hP hq (by omega) (by omega) hop ht.2.2 hpd hat
          obtain ⟨G3, F3, ji3, jn3, nb3, cd3, wa3, e1, e2, e3, e4, e5, e6, e7, e8⟩ := k2 f (w + 1) F nb (upd cd1 (s + c.length) (enc (11, 0))) (upd wa w (nI (1048576 * 11 + (s + c.length)))) (by rw [tpO_j (upd_s _ _ _) (by omega) (by decide)]; exact ⟨noS_n (by decide) (by decide), by decide⟩) (by omega) (by omega) (by omega)
          have ew : wa3 w = nI (1048576 * 11 + (s + c.length)) := by rw [e7 w (by omega), upd_s]
          have ec : cd3 (s + c.length) = enc (11, 0) := by rw [e6 _ (by omega), upd_s]
          have elow : ∀ k, k < s + c.length → cd3 k = cd1 k := fun k hk => by rw [e6 k (by omega), upd_n (by omega)]
          obtain ⟨rfl, rfl⟩ := e4
          rw [d1, e3, hel]
          refine ⟨G3, F3, none, some (s + c.length), nb3, cd3, wa3, e1, by omega, rfl, rfl, ⟨fun j z => (nomatch z), fun j z => by have z := Option.some.inj z; subst z; exact ⟨ew, ec, by omega, by omega⟩⟩, fun j hj => by rw [elow j (by omega), d2 j hj], fun j hj => by rw [e7 j (by omega), upd_n (by omega)], AtL_app.mpr ⟨AtL_mono (fun k o g1 g2 g3 => ?_) d3, ?_, AtL_mono (fun k o g1 g2 g3 => ?_) e8⟩⟩
          · exact ⟨fun _ _ => by rw [elow k (by omega)]; exact g3, fun z => (nomatch z), fun z => by have := Option.some.inj z; omega⟩
          · exact ⟨fun _ z => absurd rfl z, fun z => (nomatch z), fun _ => rfl⟩
          · exact ⟨fun _ _ => g3.1 (fun z => (nomatch z)) (fun z => (nomatch z)), fun z => (nomatch z), fun z => by have := Option.some.inj z; omega⟩
        rcases ih q2 (c ++ (11, s + c.length + 1 + c2.length) :: c2) (i + 1) (by omega) (by omega) q2N (by omega) (by omega) trivial hsm2 with ⟨φ, j1, j2⟩ | ⟨q3', c3, j0, j3, j4, j5, j6, j1, j2⟩
        · left
          refine ⟨φ, fun f st va Fx hFx => ?_, fun f w G F ji jn nb cd wa ht h1 hw hG hF' hP hpd hat => ?_⟩
          · obtain ⟨F2, rfl⟩ : ∃ F2, Fx = F2 + 1 := ⟨Fx - 1, by omega⟩
            obtain ⟨st', va', z1, z2, z3⟩ := hx0 f st va
            obtain ⟨p', k', st3, va3, y1, y2⟩ := j1 f st' va' F2 (by omega)
            exact ⟨p', k', st3, va3, y1, miter_l z1 y2⟩
          · obtain ⟨G2, F2, ji2, jn2, nb2, cd2, wa2, y1, y2, y3, y4, y5, y6, y7, y8⟩ := hm1 f w G F ji jn nb cd wa ht h1 hw hG hF' hP hpd hat
            rw [y3]
            exact j2 f w G2 F2 ji2 jn2 nb2 cd2 wa2 (by rw [tpO_cong y7]; exact ht) h1 hw y1 (by omega) y4 y5 y8
        · right
          refine ⟨q3', c3, by omega, j3, j4, j5, j6, fun f st va Fx hFx hat => ?_, fun f w G F ji jn nb cd wa ht h1 hw hG hF' hP hpd hat => ?_⟩
          · obtain ⟨F2, rfl⟩ : ∃ F2, Fx = F2 + 1 := ⟨Fx - 1, by omega⟩
            obtain ⟨st', va', z1, z2, z3⟩ := hx0 f st va
            obtain ⟨st3, va3, y1, y2, y3⟩ := j1 f st' va' F2 (by omega) (z3 hat)
            exact ⟨st3, va3, miter_l z1 y1, fun j hj => ⟨(y2 j hj).1.trans (z2 j hj).1, (y2 j hj).2.trans (z2 j hj).2⟩, y3⟩
          · obtain ⟨G2, F2, ji2, jn2, nb2, cd2, wa2, y1, y2, y3, y4, y5, y6, y7, y8⟩ := hm1 f w G F ji jn nb cd wa ht h1 hw hG hF' hP hpd hat
            rw [y3]
            obtain ⟨G4, F4, ji4, jn4, nb4, cd4, wa4, x1, x2, x3, x4, x5, x6, x7, x8⟩ := j2 f w G2 F2 ji2 jn2 nb2 cd2 wa2 (by rw [tpO_cong y7]; exact ht) h1 hw y1 (by omega) y4 y5 y8
            exact ⟨G4, F4, ji4, jn4, nb4, cd4, wa4, x1, by omega, x3, x4, x5, fun j hj => (x6 j hj).trans (y6 j hj), fun j hj => (x7 j hj).trans (y7 j hj), x8⟩
    · right
      refine ⟨q, c, Nat.le_refl _, hq, hc, hop, hsm, fun f st va Fx hFx hat => ?_, fun f w G F ji jn nb cd wa ht h1 hw hG hF' hP hpd hat => ?_⟩
      · obtain ⟨F2, rfl⟩ : ∃ F2, Fx = F2 + 1 := ⟨Fx - 1, by omega⟩
        exact ⟨st, va, miter_r (stopQ hX hq (by omega) hop), fun _ _ => ⟨rfl, rfl⟩, hat⟩
      · exact ⟨G, F, ji, jn, nb, cd, wa, hG, by omega, rfl, hP, hpd, fun _ _ => rfl, fun _ _ => rfl, hat⟩
theorem lvQ_step (hX : txX μ N sg) (hM : txM ν N sg) {n : Nat} (hF : LvP μ ν N sg n) : LvQ μ ν N sg (n + 1) := by
  intro a p s ha hn hs hp
  have hN := hX.2.1
  have un : ∀ M : Mm, vs_LawReading_rec (n + 1) 1 M (nI a) = mbm (vs_LawReading_rec n 2 M (nI a)) fun x1 μ2 => mbv (miter (fun q : Int32 × Int32 × Mm => vs_LawReading_readPart_b8 (vs_LawReading_rec n) q.2.2 (nI a) q.1 q.2.1) FU (bI x1, 0, μ2)) (un2 fun x17 μ18 => mzr x17 fun b19 => some (b19, μ18)) := fun _ => rfl
  have hFU : 1000 < FU := by unfold FU; omega
  rcases hF a p s ha (by omega) hs hp with ⟨φ, k1, k2⟩ | ⟨q, c, q1, q2, q3, q4, q5, k1, k2⟩
  · left
    refine ⟨φ, fun f st va => ?_, fun f w F nb cd wa ht => k2 f w F nb cd wa ⟨ht.1, ht.2.1⟩⟩
    obtain ⟨p', k', st', va', z1, z2⟩ := k1 f st va
    refine ⟨p', k', st', va', z1, ?_⟩
    rw [un, z2, mbm_s]
    have z : miter (fun q : Int32 × Int32 × Mm => vs_LawReading_readPart_b8 (vs_LawReading_rec n) q.2.2 (nI a) q.1 q.2.1) FU (bI false, 0, xM μ p' (nI φ) (nI k') st' va') = some (0, xM μ p' (nI φ) (nI k') st' va') := miter_r (F := 1048575) zeroQ
    rw [z, mbv_s, un2_p, mzr_0]
  · rcases loopQ hX hM hF ha (by omega) hs (N - q) q c 0 (Nat.le_refl _) q1 q2 (by omega) q3 trivial q5 with ⟨φ, j1, j2⟩ | ⟨q3', c3, j0, j3, j4, j5, j6, j1, j2⟩
    · left
      refine ⟨φ, fun f st va => ?_, fun f w F nb cd wa ht h1 hw hF' => ?_⟩
      · obtain ⟨st', va', z1, z2, z3⟩ := k1 f st va
        obtain ⟨p', k', st3, va3, y1, y2⟩ := j1 f st' va' FU (by omega)
        refine ⟨p', k', st3, va3, y1, ?_⟩
        have y2 : miter (fun q : Int32 × Int32 × Mm => vs_LawReading_readPart_b8 (vs_LawReading_rec n) q.2.2 (nI a) q.1 q.2.1) FU (bI true, 0, xM μ (nI q) f (nI (s + c.length)) st' va') = some (0, xM μ p' (nI φ) (nI k') st3 va3) := y2
        rw [un, z1, mbm_s, y2, mbv_s, un2_p, mzr_0]
      · obtain ⟨G', F', ji, jn, nb', cd', wa', e1, e2, e3, e4, e5, e6, e7, e8⟩ := k2 f w F nb cd wa ⟨ht.1, ht.2.1⟩ h1 hw hF'
        rw [e3]
        exact j2 f w G' F' ji jn nb' cd' wa' (by rw [tpO_cong e7]; exact ht) h1 hw e1 (by omega) e4.1 e5 e8
    · right
      refine ⟨q3', c3, by omega, j3, by omega, j5, j6, fun f st va => ?_, fun f w F nb cd wa ht h1 hw hF' => ?_⟩
      · obtain ⟨st', va', z1, z2, z3⟩ := k1 f st va
        obtain ⟨st3, va3, y1, y2, y3⟩ := j1 f st' va' FU (by omega) z3
        refine ⟨st3, va3, ?_, fun j hj => ⟨(y2 j hj).1.trans (z2 j hj).1, (y2 j hj).2.trans (z2 j hj).2⟩, y3⟩
        have y1 : miter (fun q : Int32 × Int32 × Mm => vs_LawReading_readPart_b8 (vs_LawReading_rec n) q.2.2 (nI a) q.1 q.2.1) FU (bI true, 0, xM μ (nI q) f (nI (s + c.length)) st' va') = some (1, xM μ (nI q3') f (nI (s + c3.length)) st3 va3) := y1
        rw [un, z1, mbm_s, y1, mbv_s, un2_p, mzr_1]
      · obtain ⟨G', F', ji, jn, nb', cd', wa', e1, e2, e3, e4, e5, e6, e7, e8⟩ := k2 f w F nb cd wa ⟨ht.1, ht.2.1⟩ h1 hw hF'
        rw [e3]
        obtain ⟨G4, F4, ji4, jn4, nb4, cd4, wa4, x1, x2, x3, x4, x5, x6, x7, x8⟩ := j2 f w G' F' ji jn nb' cd' wa' (by rw [tpO_cong e7]; exact ht) h1 hw e1 (by omega) e4.1 e5 e8
        exact ⟨G4, F4, ji4, jn4, nb4, cd4, wa4, x1, by omega, x3, x4, x5, fun j hj => (x6 j hj).trans (e6 j hj), fun j hj => (x7 j hj).trans (e7 j hj), x8⟩
theorem stopC {n i : Nat} {a : Int32} (hX : txX μ N sg) {q : Nat} (hq : q ≤ N) (hi : i < 200) {f k : Int32} {st va : Nat → Int32} (h : ¬ (sg q = 124)) : vs_LawReading_readTest_b8 (vs_LawReading_rec n) (xM μ (nI q) f k st va) a 1 (nI i) = some (.inr (1, xM μ (nI q) f k st va)) := by
  unfold vs_LawReading_readTest_b8
  rw [if_neg (show ¬ ((200 : Int32) ≤ nI i) from nI_ge (b := 200) hi (by decide)), if_neg (by decide), x_sign hX hq, mbv_s, if_neg h]
theorem zeroC {n : Nat} {a i : Int32} {M : Mm} : vs_LawReading_readTest_b8 (vs_LawReading_rec n) M a 0 i = some (.inr (0, M)) := by
  unfold vs_LawReading_readTest_b8
  split
  · rfl
  · rw [if_pos rfl]
theorem operC {n i e : Nat} {a : Int32} (hX : txX μ N sg) {q : Nat} (hq : q ≤ N) (hi : i < 200) (he : e < 200) {f : Int32} {st va : Nat → Int32} (h : sg q = 124) : vs_LawReading_readTest_b8 (vs_LawReading_rec n) (xM μ (nI q) f (nI e) st va) a 1 (nI i) = mbm (vs_LawReading_rec n 1 (xM μ (nI (q + 1)) f (nI (e + 1)) (upd st e 4) (upd va e 0)) a) fun x10 μ11 => mbv (vs_Law_aimHere_sp μ11 (nI e)) fun μ13 => some (.inl (bI x10, nI (i + 1), μ13)) := by
  unfold vs_LawReading_readTest_b8
  rw [if_neg (show ¬ ((200 : Int32) ≤ nI i) from nI_ge (b := 200) hi (by decide)), if_neg (by decide), x_sign hX hq, mbv_s, if_pos h, mst_s, xM_3, xMs3, x_emit he, mbv_s, xM_7, nI_1, nI_1]
theorem loopC (hX : txX μ N sg) (hM : txM ν N sg) {n a p s : Nat} (hF : LvQ μ ν N sg n) (ha : a ≤ 6) (hn : 3 * (7 - a) + 2 ≤ n) (hs : s ≤ p) : ∀ (m q : Nat) (c : List (Nat × Nat)) (i : Nat), N - q ≤ m → p < q → q ≤ N → i < q → c.length ≤ q - p → (fun x : Int32 => x ≠ 38) (sg q) → smC (6 + 2 * (6 - a)) s c → (∃ φ, (∀ (f : Int32) (st va : Nat → Int32) (Fx : Nat), N - q + 1 < Fx → ∃ p' k' st' va', (k' ≤ 200 ∧ 0 < φ ∧ φ < 10000) ∧ miter (fun q : Int32 × Int32 × Mm => vs_LawReading_readTest_b8 (vs_LawReading_rec n) q.2.2 (nI a) q.1 q.2.1) Fx (1, nI i, xM μ (nI q) f (nI (s + c.length)) st va) = some (0, xM μ p' (nI φ) (nI k') st' va')) ∧ ∀ (f : Int32) (w G F : Nat) (ji jn : Option Nat) (nb : Int32) (cd wa : Nat → Int32), (fun t : Int32 => noS t ∧ t ≠ 10 ∧ t ≠ 11 ∧ t ≠ 12) (tpO wa w) → 1 ≤ w → w ≤ p → FU ≤ G + q → 400 ≤ F + q → (fun (_ _ : Option Nat) => True) ji jn → pdj wa cd s w (s + c.length) ji jn → AtL (atJ cd (s + c.length) ji jn) s c → mNo ν φ (cFin (cA G F (rM ν (nI q) f (nI a) (nI (s + c.length)) (nI (w + ol ji + ol jn)) nb cd wa)))) ∨ ∃ q2 c2, q ≤ q2 ∧ q2 ≤ N ∧ c2.length ≤ q2 - p ∧ (fun x : Int32 => x ≠ 38 ∧ x ≠ 124) (sg q2) ∧ smC (6 + 2 * (6 - a)) s c2 ∧ (∀ (f : Int32) (st va : Nat → Int32) (Fx : Nat), N - q + 1 < Fx → AtL (fun k o => opX k o (st k) (va k)) s c → ∃ st' va', miter (fun q : Int32 × Int32 × Mm => vs_LawReading_readTest_b8 (vs_LawReading_rec n) q.2.2 (nI a) q.1 q.2.1) Fx (1, nI i, xM μ (nI q) f (nI (s + c.length)) st va) = some (1, xM μ (nI q2) f (nI (s + c2.length)) st' va') ∧ (∀ i, i < s → st' i = st i ∧ va' i = va i) ∧ AtL (fun k o => opX k o (st' k) (va' k)) s c2) ∧ ∀ (f : Int32) (w G F : Nat) (ji jn : Option Nat) (nb : Int32) (cd wa : Nat → Int32), (fun t : Int32 => noS t ∧ t ≠ 10 ∧ t ≠ 11 ∧ t ≠ 12) (tpO wa w) → 1 ≤ w → w ≤ p → FU ≤ G + q → 400 ≤ F + q → (fun (_ _ : Option Nat) => True) ji jn → pdj wa cd s w (s + c.length) ji jn → AtL (atJ cd (s + c.length) ji jn) s c → cOk ν (fun (_ _ : Option Nat) => True) f a q s w F cd wa q2 c2 (cA G F (rM ν (nI q) f (nI a) (nI (s + c.length)) (nI (w + ol ji + ol jn)) nb cd wa)) := by
  intro m
  have hN := hX.2.1
  have hFU : 1000 < FU := by unfold FU; omega
  induction m with
  | zero =>
    intro q c i hm hpq hq hi hc hes hsm
    have hm1 : sg q = -1 := hX.2.2.2 q (by omega)
    have hno : ¬ (sg q = 124) := by rw [hm1]; decide
    right
    refine ⟨q, c, Nat.le_refl _, hq, hc, ⟨hes, hno⟩, hsm, fun f st va Fx hFx hat => ?_, fun f w G F ji jn nb cd wa ht h1 hw hG hF' hP hpd hat => ?_⟩
    · obtain ⟨F2, rfl⟩ : ∃ F2, Fx = F2 + 1 := ⟨Fx - 1, by omega⟩
      exact ⟨st, va, miter_r (stopC hX hq (by omega) hno), fun _ _ => ⟨rfl, rfl⟩, hat⟩
    · exact ⟨G, F, ji, jn, nb, cd, wa, hG, by omega, rfl, hP, hpd, fun _ _ => rfl, fun _ _ => rfl, hat⟩
  | succ m ih =>
    intro q c i hm hpq hq hi hc hes hsm
    by_cases hop : sg q = 124
    · have hqN : q < N := sg_lt hX (by rw [hop]; decide)
      have he : s + c.length < 200 := by omega
      rcases hF a (q + 1) (s + c.length + 1) ha hn (by omega) (by omega) with ⟨φ, k1, k2⟩ | ⟨q2, c2, q1, q2N, q3, q4, q5, k1, k2⟩
      · left
        refine ⟨φ, fun f st va Fx hFx => ?_, fun f w G F ji jn nb cd wa ht h1 hw hG hF' hP hpd hat => ?_⟩
        · obtain ⟨F2, rfl⟩ : ∃ F2, Fx = F2 + 1 + 1 := ⟨Fx - 2, by omega⟩
          obtain ⟨p', k', st', va', z1, z2⟩ := k1 f (upd st (s + c.length) 4) (upd va (s + c.length) 0)
          refine ⟨p', k', st', upd va' (s + c.length) (nI k'), z1, miter_l (q' := (0, nI (i + 1), xM μ p' (nI φ) (nI k') st' (upd va' (s + c.length) (nI k')))) ?_ (miter_r zeroC)⟩
          refine (operC hX hq (by omega) he hop).trans ?_
          rw [z2, mbm_s, x_aim he, mbv_s]
          rfl
        · obtain ⟨G2, rfl⟩ : ∃ G2, G = G2 + 1 := ⟨G - 1, by omega⟩
          obtain ⟨cd1, d1, d2, d3⟩ := cA_or hM (f := f) (o := nI a) (nb := nb) (G := G2) (F := F)  hq (by omega) (by omega) hop ht.2.2 hpd hat
          rw [d1]
          exact k2 f (w + 1) F nb _ _ (by rw [tpO_j (upd_s _ _ _) (by omega) (by decide)]; exact ⟨noS_n (by decide) (by decide), by decide, by decide⟩) (by omega) (by omega) (by omega)
      · have hl2 : (c ++ (12, s + c.length + 1 + c2.length) :: c2).length = c.length + 1 + c2.length := by rw [List.length_append, List.length_cons]; omega
        have hsm2 : smC (6 + 2 * (6 - a)) s (c ++ (12, s + c.length + 1 + c2.length) :: c2) := smC_jmp hsm q5 (by omega) (by decide)
        have hel : s + (c ++ (12, s + c.length + 1 + c2.length) :: c2).length = s + c.length + 1 + c2.length := by omega
        have hx0 : ∀ (f : Int32) (st va : Nat → Int32), ∃ st' va', vs_LawReading_readTest_b8 (vs_LawReading_rec n) (xM μ (nI q) f (nI (s + c.length)) st va) (nI a) 1 (nI i) = some (.inl (1, nI (i + 1), xM μ (nI q2) f (nI (s + (c ++ (12, s + c.length + 1 + c2.length) :: c2).length)) st' va')) ∧ (∀ i, i < s → st' i = st i ∧ va' i = va i) ∧ (AtL (fun k o => opX k o (st k) (va k)) s c → AtL (fun k o => opX k o (st' k) (va' k)) s (c ++ (12, s + c.length + 1 + c2.length) :: c2)) := by
          intro f st va
          obtain ⟨st', va', z1, z2, z3⟩ := k1 f (upd st (s + c.length) 4) (upd va (s + c.length) 0)
          refine ⟨st', upd va' (s + c.length) (nI (s + c.length + 1 + c2.length)), ?_, fun j hj => ?_, fun hat => ?_⟩
          · refine (operC hX hq (by omega) he hop).trans ?_
            rw [z1, mbm_s, x_aim he, mbv_s, hel]
            rfl
          · have := z2 j (by omega)
            rw [upd_n (by omega)] at this
            rw [upd_n (by omega), this.1, this.2, upd_n (by omega)]
            exact ⟨rfl, rfl⟩
          · refine AtL_app.mpr ⟨AtL_mono (fun k o h1 h2 h3 => ?_) hat, ?_, AtL_mono (fun k o h1 h2 h3 => ?_) z3⟩
            · show opX k o (st' k) (upd va' _ _ k)
              have := z2 k (by omega)
              rw [upd_n (by omega)] at this
              rw [upd_n (by omega), this.1, this.2, upd_n (by omega)]
              exact h3
            · show opX (s + c.length) (12, s + c.length + 1 + c2.length) (st' (s + c.length)) (upd va' _ _ (s + c.length))
              rw [upd_s, (z2 (s + c.length) (by omega)).1, upd_s]
              exact ⟨rfl, by show s + c.length + 1 + c2.length < 1048576; omega, Or.inr (Or.inr (Or.inr (Or.inr (Or.inr (Or.inr (Or.inr (Or.inr (Or.inr (Or.inr (Or.inr (Or.inr ⟨rfl, rfl, rfl, by show s + c.length < s + c.length + 1 + c2.length; omega, by show s + c.length + 1 + c2.length ≤ 200; omega⟩)))))))))))⟩
            · show opX k o (st' k) (upd va' _ _ k)
              rw [upd_n (by omega)]
              exact h3
        have hm1 : ∀ (f : Int32) (w G F : Nat) (ji jn : Option Nat) (nb : Int32) (cd wa : Nat → Int32), (fun t : Int32 => noS t ∧ t ≠ 10 ∧ t ≠ 11 ∧ t ≠ 12) (tpO wa w) → 1 ≤ w → w ≤ p → FU ≤ G + q → 400 ≤ F + q → (fun (_ _ : Option Nat) => True) ji jn → pdj wa cd s w (s + c.length) ji jn → AtL (atJ cd (s + c.length) ji jn) s c → ∃ G2 F2 ji2 jn2 nb2 cd2 wa2, FU ≤ G2 + q2 ∧ F ≤ F2 + (q2 - q) ∧ cA G F (rM ν (nI q) f (nI a) (nI (s + c.length)) (nI (w + ol ji + ol jn)) nb cd wa) = cA G2 F2 (rM ν (nI q2) f (nI a) (nI (s + (c ++ (12, s + c.length + 1 + c2.length) :: c2).length)) (nI (w + ol ji2 + ol jn2)) nb2 cd2 wa2) ∧ (fun (_ _ : Option Nat) => True) ji2 jn2 ∧ pdj wa2 cd2 s w (s + (c ++ (12, s + c.length + 1 + c2.length) :: c2).length) ji2 jn2 ∧ (∀ i, i < s → cd2 i = cd i) ∧ (∀ i, i < w → wa2 i = wa i) ∧ AtL (atJ cd2 (s + (c ++ (12, s + c.length + 1 + c2.length) :: c2).length) ji2 jn2) s (c ++ (12, s + c.length + 1 + c2.length) :: c2) := by
          intro f w G F ji jn nb cd wa ht h1 hw hG hF' hP hpd hat
          obtain ⟨G2, rfl⟩ : ∃ G2, G = G2 + 1 := ⟨G - 1, by omega⟩
          obtain ⟨cd1, d1, d2, d3⟩ := cA_or hM (f := f) (o := nI a) (nb := nb) (G := G2) (F := F)  hq (by omega) (by omega) hop ht.2.2 hpd hat
          obtain ⟨G3, F3, ji3, jn3, nb3, cd3, wa3, e1, e2, e3, e4, e5, e6, e7, e8⟩ := k2 f (w + 1) F nb (upd cd1 (s + c.length) (enc (12, 0))) (upd wa w (nI (1048576 * 12 + (s + c.length)))) (by rw [tpO_j (upd_s _ _ _) (by omega) (by decide)]; exact ⟨noS_n (by decide) (by decide), by decide, by decide⟩) (by omega) (by omega) (by omega)
          have ew : wa3 w = nI (1048576 * 12 + (s + c.length)) := by rw [e7 w (by omega), upd_s]
          have ec : cd3 (s + c.length) = enc (12, 0) := by rw [e6 _ (by omega), upd_s]
          have elow : ∀ k, k < s + c.length → cd3 k = cd1 k := fun k hk => by rw [e6 k (by omega), upd_n (by omega)]
          have e4 : ji3 = none := e4
          subst e4
          rw [d1, e3, hel]
          refine ⟨G3, F3, some (s + c.length), jn3, nb3, cd3, wa3, e1, by omega, rfl, trivial, ⟨fun j z => by have z := Option.some.inj z; subst z; exact ⟨ew, ec, by omega, by omega⟩, fun j z => by have := e5.2 j z; exact ⟨this.1, this.2.1, by omega, this.2.2.2⟩⟩, fun j hj => by rw [elow j (by omega), d2 j hj], fun j hj => by rw [e7 j (by omega), upd_n (by omega)], AtL_app.mpr ⟨AtL_mono (fun k o g1 g2 g3 => ?_) d3, ?_, AtL_mono (fun k o g1 g2 g3 => ?_) e8⟩⟩
          · exact ⟨fun _ _ => by rw [elow k (by omega)]; exact g3, fun z => by have := Option.some.inj z; omega, fun z => by have := (e5.2 k z).2.2.1; omega⟩
          · exact ⟨fun z => absurd rfl z, fun _ => rfl, fun z => by have := (e5.2 _ z).2.2.1; omega⟩
          · exact ⟨fun _ z => g3.1 (fun z => (nomatch z)) z, fun z => by have := Option.some.inj z; omega, g3.2.2⟩
        rcases ih q2 (c ++ (12, s + c.length + 1 + c2.length) :: c2) (i + 1) (by omega) (by omega) q2N (by omega) (by omega) q4 hsm2 with ⟨φ, j1, j2⟩ | ⟨q3', c3, j0, j3, j4, j5, j6, j1, j2⟩
        · left
          refine ⟨φ, fun f st va Fx hFx => ?_, fun f w G F ji jn nb cd wa ht h1 hw hG hF' hP hpd hat => ?_⟩
          · obtain ⟨F2, rfl⟩ : ∃ F2, Fx = F2 + 1 := ⟨Fx - 1, by omega⟩
            obtain ⟨st', va', z1, z2, z3⟩ := hx0 f st va
            obtain ⟨p', k', st3, va3, y1, y2⟩ := j1 f st' va' F2 (by omega)
            exact ⟨p', k', st3, va3, y1, miter_l z1 y2⟩
          · obtain ⟨G2, F2, ji2, jn2, nb2, cd2, wa2, y1, y2, y3, y4, y5, y6, y7, y8⟩ := hm1 f w G F ji jn nb cd wa ht h1 hw hG hF' hP hpd hat
            rw [y3]
            exact j2 f w G2 F2 ji2 jn2 nb2 cd2 wa2 (by rw [tpO_cong y7]; exact ht) h1 hw y1 (by omega) y4 y5 y8
        · right
          refine ⟨q3', c3, by omega, j3, j4, j5, j6, fun f st va Fx hFx hat => ?_, fun f w G F ji jn nb cd wa ht h1 hw hG hF' hP hpd hat => ?_⟩
          · obtain ⟨F2, rfl⟩ : ∃ F2, Fx = F2 + 1 := ⟨Fx - 1, by omega⟩
            obtain ⟨st', va', z1, z2, z3⟩ := hx0 f st va
            obtain ⟨st3, va3, y1, y2, y3⟩ := j1 f st' va' F2 (by omega) (z3 hat)
            exact ⟨st3, va3, miter_l z1 y1, fun j hj => ⟨(y2 j hj).1.trans (z2 j hj).1, (y2 j hj).2.trans (z2 j hj).2⟩, y3⟩
          · obtain ⟨G2, F2, ji2, jn2, nb2, cd2, wa2, y1, y2, y3, y4, y5, y6, y7, y8⟩ := hm1 f w G F ji jn nb cd wa ht h1 hw hG hF' hP hpd hat
            rw [y3]
            obtain ⟨G4, F4, ji4, jn4, nb4, cd4, wa4, x1, x2, x3, x4, x5, x6, x7, x8⟩ := j2 f w G2 F2 ji2 jn2 nb2 cd2 wa2 (by rw [tpO_cong y7]; exact ht) h1 hw y1 (by omega) y4 y5 y8
            exact ⟨G4, F4, ji4, jn4, nb4, cd4, wa4, x1, by omega, x3, x4, x5, fun j hj => (x6 j hj).trans (y6 j hj), fun j hj => (x7 j hj).trans (y7 j hj), x8⟩
    · right
      refine ⟨q, c, Nat.le_refl _, hq, hc, ⟨hes, hop⟩, hsm, fun f st va Fx hFx hat => ?_, fun f w G F ji jn nb cd wa ht h1 hw hG hF' hP hpd hat => ?_⟩
      · obtain ⟨F2, rfl⟩ : ∃ F2, Fx = F2 + 1 := ⟨Fx - 1, by omega⟩
        exact ⟨st, va, miter_r (stopC hX hq (by omega) hop), fun _ _ => ⟨rfl, rfl⟩, hat⟩
      · exact ⟨G, F, ji, jn, nb, cd, wa, hG, by omega, rfl, hP, hpd, fun _ _ => rfl, fun _ _ => rfl, hat⟩
theorem lvC_step (hX : txX μ N sg) (hM : txM ν N sg) {n : Nat} (hF : LvQ μ ν N sg n) : LvC μ ν N sg (n + 1) := by
  intro a p s ha hn hs hp
  have hN := hX.2.1
  have un : ∀ M : Mm, vs_LawReading_rec (n + 1) 0 M (nI a) = mbm (vs_LawReading_rec n 1 M (nI a)) fun x1 μ2 => mbv (miter (fun q : Int32 × Int32 × Mm => vs_LawReading_readTest_b8 (vs_LawReading_rec n) q.2.2 (nI a) q.1 q.2.1) FU (bI x1, 0, μ2)) (un2 fun x17 μ18 => mzr x17 fun b19 => some (b19, μ18)) := fun _ => rfl
  have hFU : 1000 < FU := by unfold FU; omega
  rcases hF a p s ha (by omega) hs hp with ⟨φ, k1, k2⟩ | ⟨q, c, q1, q2, q3, q4, q5, k1, k2⟩
  · left
    refine ⟨φ, fun f st va => ?_, fun f w F nb cd wa ht => k2 f w F nb cd wa ⟨ht.1, ht.2.1, ht.2.2.1⟩⟩
    obtain ⟨p', k', st', va', z1, z2⟩ := k1 f st va
    refine ⟨p', k', st', va', z1, ?_⟩
    rw [un, z2, mbm_s]
    have z : miter (fun q : Int32 × Int32 × Mm => vs_LawReading_readTest_b8 (vs_LawReading_rec n) q.2.2 (nI a) q.1 q.2.1) FU (bI false, 0, xM μ p' (nI φ) (nI k') st' va') = some (0, xM μ p' (nI φ) (nI k') st' va') := miter_r (F := 1048575) zeroC
    rw [z, mbv_s, un2_p, mzr_0]
  · rcases loopC hX hM hF ha (by omega) hs (N - q) q c 0 (Nat.le_refl _) q1 q2 (by omega) q3 q4 q5 with ⟨φ, j1, j2⟩ | ⟨q3', c3, j0, j3, j4, j5, j6, j1, j2⟩
    · left
      refine ⟨φ, fun f st va => ?_, fun f w F nb cd wa ht h1 hw hF' => ?_⟩
      · obtain ⟨st', va', z1, z2, z3⟩ := k1 f st va
        obtain ⟨p', k', st3, va3, y1, y2⟩ := j1 f st' va' FU (by omega)
        refine ⟨p', k', st3, va3, y1, ?_⟩
        have y2 : miter (fun q : Int32 × Int32 × Mm => vs_LawReading_readTest_b8 (vs_LawReading_rec n) q.2.2 (nI a) q.1 q.2.1) FU (bI true, 0, xM μ (nI q) f (nI (s + c.length)) st' va') = some (0, xM μ p' (nI φ) (nI k') st3 va3) := y2
        rw [un, z1, mbm_s, y2, mbv_s, un2_p, mzr_0]
      · obtain ⟨G', F', ji, jn, nb', cd', wa', e1, e2, e3, e4, e5, e6, e7, e8⟩ := k2 f w F nb cd wa ⟨ht.1, ht.2.1, ht.2.2.1⟩ h1 hw hF'
        rw [e3]
        exact j2 f w G' F' ji jn nb' cd' wa' (by rw [tpO_cong e7]; exact ht) h1 hw e1 (by omega) trivial e5 e8
    · right
      refine ⟨q3', c3, by omega, j3, by omega, j5, j6, fun f st va => ?_, fun f w F nb cd wa ht h1 hw hF' => ?_⟩
      · obtain ⟨st', va', z1, z2, z3⟩ := k1 f st va
        obtain ⟨st3, va3, y1, y2, y3⟩ := j1 f st' va' FU (by omega) z3
        refine ⟨st3, va3, ?_, fun j hj => ⟨(y2 j hj).1.trans (z2 j hj).1, (y2 j hj).2.trans (z2 j hj).2⟩, y3⟩
        have y1 : miter (fun q : Int32 × Int32 × Mm => vs_LawReading_readTest_b8 (vs_LawReading_rec n) q.2.2 (nI a) q.1 q.2.1) FU (bI true, 0, xM μ (nI q) f (nI (s + c.length)) st' va') = some (1, xM μ (nI q3') f (nI (s + c3.length)) st3 va3) := y1
        rw [un, z1, mbm_s, y1, mbv_s, un2_p, mzr_1]
      · obtain ⟨G', F', ji, jn, nb', cd', wa', e1, e2, e3, e4, e5, e6, e7, e8⟩ := k2 f w F nb cd wa ⟨ht.1, ht.2.1, ht.2.2.1⟩ h1 hw hF'
        rw [e3]
        obtain ⟨G4, F4, ji4, jn4, nb4, cd4, wa4, x1, x2, x3, x4, x5, x6, x7, x8⟩ := j2 f w G' F' ji jn nb' cd' wa' (by rw [tpO_cong e7]; exact ht) h1 hw e1 (by omega) trivial e5 e8
        exact ⟨G4, F4, ji4, jn4, nb4, cd4, wa4, x1, by omega, x3, x4, x5, fun j hj => (x6 j hj).trans (e6 j hj), fun j hj => (x7 j hj).trans (e7 j hj), x8⟩
end
