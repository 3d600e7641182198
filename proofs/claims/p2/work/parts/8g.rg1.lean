/-! THE REGIONS alike: opening and closing what stands between the calls; a query -/
theorem InvR.mono {K K' : Int} {σ : zS} (I : InvR K σ) (e : K ≤ K') : InvR K' σ := ⟨I.1, I.2.mono e⟩
theorem InvS.ci {σ : zS} (J : InvS σ) : CI σ := J.1.1.1.1
theorem InvS.mi {σ : zS} (J : InvS σ) : MI σ := J.1.1.1.2.1
theorem InvS.rw {σ : zS} (J : InvS σ) : RW σ 41 144 147 := J.1.1.2.1.1
/-- settings of the class: bounds -/
def stO1 (st : Int → Int) : Prop := (1 ≤ st 1 ∧ st 1 ≤ 99) ∧ (1 ≤ st 2 ∧ st 2 ≤ 12) ∧ (0 ≤ st 3 ∧ st 3 ≤ 2) ∧ (st 4 = 0 ∨ st 4 = 1) ∧ (st 5 = 0 ∨ st 5 = 1)
theorem R_st {K : Int} {σ : zS} (I : InvR K σ) : stO1 (σ 50) := by
  have h := I.1.mi.2.1
  have e1 : σ 50 1 = σ 144 12 := I.1.2.1 1 (by decide) (by decide)
  have e2 : σ 50 2 = σ 144 13 := I.1.2.1 2 (by decide) (by decide)
  refine ⟨?_, ?_, I.2.2.1⟩
  · rw [e1]
    exact h.1
  · rw [e2]
    exact h.2.1
theorem ok_of {σ : zS} {L : List Rg} (h : mRs σ L) (hR : RI σ L.length) : ∀ r ∈ L, hOk r := fun r hr => by
  obtain ⟨k, hk, rfl⟩ := List.getElem_of_mem hr
  have g := hR.1 k hk
  rw [h.2 k hk] at g
  exact ⟨g.1, g.2.imp id (fun x => x.1)⟩
theorem pw_of {σ : zS} {L : List Rg} (h : mRs σ L) (hR : RI σ L.length) : (L.map (fun r => r.1)).Pairwise (fun a b => ¬ bMt a b) := by
  rw [List.pairwise_iff_getElem]
  intro i j hi hj hij
  rw [List.length_map] at hi hj
  rw [List.getElem_map, List.getElem_map, ← h.2 i hi, ← h.2 j hj]
  exact hR.2 i j hij hj
theorem RI_at {σ : zS} {L : List Rg} (h : mRs σ L) (n : NI σ) : RI σ L.length ∧ L.length ≤ 12 := by
  obtain ⟨N, n1, n2, n3⟩ := n
  have e : N = L.length := by
    have := h.1
    omega
  subst e
  exact ⟨n3, n1⟩
theorem R_open {K : Int} {σ : zS} (I : InvR K σ) : ∃ (L : List Rg) (ct : Int → Int), cSt σ 48 (inS σ 144) (rowsN σ) (σ 50) L ct ∧ mSt σ (rowsN σ) (σ 50) L ct ∧ RI σ L.length ∧ (∀ r ∈ L, hOk r) ∧ asc L (ct 8) ∧ (0 ≤ ct 8 ∧ ct 8 ≤ K) ∧ L.length ≤ 12 := by
  obtain ⟨L, ct, h1, h2, h3, h4, h5, h6, h7⟩ := I.2.1
  have R := I.1.rw
  obtain ⟨hR, -⟩ := RI_at h3 I.1.mi.1
  exact ⟨L, ct, ⟨h1, h2, fun i _ _ => rfl, R.1.2.1, R.1.1, fun b => rnC_eq R⟩, ⟨h3, h4, fun i i1 i2 => (I.1.2.1 i i1 i2).symm, fun b => rfl⟩, hR, ok_of h3 hR, h5, h6, h7.1⟩
theorem mRs.det {σ : zS} {L L' : List Rg} (h : mRs σ L) (h' : mRs σ L') : L = L' := by
  have e : L.length = L'.length := by
    have a := h.1
    have b := h'.1
    omega
  exact List.ext_getElem e (fun k h1 h2 => (h.2 k h1).symm.trans (h'.2 k h2))
theorem R_g {K : Int} {σ : zS} (I : InvR K σ) {L : List Rg} (M : mRs σ L) : gL L := by
  obtain ⟨L', ct, h1, h2, h3, h4, h5, h6, h7⟩ := I.2.1
  rw [M.det h3]
  exact h7.2
/-- the image's cells of the class -/
def imE (σ s : zS) : Prop := ∀ a j, (a = 81 ∨ (83 ≤ a ∧ a ≤ 88)) → s a j = σ a j
theorem imE.of {F : Nat → Int → Bool} {σ s : zS} (G : fr F σ s) (h : ∀ j : Int, F 81 j = false ∧ F 83 j = false ∧ F 84 j = false ∧ F 85 j = false ∧ F 86 j = false ∧ F 87 j = false ∧ F 88 j = false) : imE σ s := fun a j k => by
  obtain ⟨h1, h2, h3, h4, h5, h6, h7⟩ := h j
  have c : a = 81 ∨ a = 83 ∨ a = 84 ∨ a = 85 ∨ a = 86 ∨ a = 87 ∨ a = 88 := by omega
  rcases c with rfl | rfl | rfl | rfl | rfl | rfl | rfl
  · exact G _ _ (Or.inr h1)
  · exact G _ _ (Or.inr h2)
  · exact G _ _ (Or.inr h3)
  · exact G _ _ (Or.inr h4)
  · exact G _ _ (Or.inr h5)
  · exact G _ _ (Or.inr h6)
  · exact G _ _ (Or.inr h7)
theorem frI_of {m : Option (Int × zS)} {s s2 : zS} {w : Int} (h : ∃ w s2, m = some (w, s2) ∧ MI s2 ∧ frI s s2) (e : m = some (w, s2)) : frI s s2 := by
  obtain ⟨w', s2', e', -, f⟩ := h
  rw [e] at e'
  cases e'
  exact f
theorem zO.at {α : Type} {m : Option (α × zS)} {Q : α → zS → Prop} {w : α} {s : zS} (h : zO m Q) (e : m = some (w, s)) : Q w s := zP'.of h w s e
/-- the image's cells of the reference -/
def irE (σ s : zS) : Prop := ∀ a j, (a = 145 ∨ a = 148 ∨ (a = 143 ∧ j = 6)) → s a j = σ a j
theorem rK.ir {σ s : zS} (k : rK σ s) : irE σ s := fun a j h => by
  rcases h with rfl | rfl | ⟨rfl, rfl⟩
  · exact (k.2.2.1 j).1
  · exact (k.2.2.1 j).2
  · exact k.2.2.2
theorem R_im {K K' : Int} {σ s1 s2 : zS} (h : RGp K σ) (hK : K ≤ K') (i1 : imE σ s1) (k1 : irE σ s1) (c : ∀ a j, a < 143 → s2 a j = s1 a j) (k2 : irE s1 s2) : s2 143 6 ≠ 0 → RG1 K' s2 (imgS s2) 81 ∧ stB s2 83 := fun k => by
  have ir : ∀ a j, (a = 145 ∨ a = 148 ∨ (a = 143 ∧ j = 6)) → s2 a j = σ a j := fun a j q => (k2 a j q).trans (k1 a j q)
  rw [ir 143 6 (by omega)] at k
  obtain ⟨h1, h2⟩ := h.2.2 k
  have e : ∀ a j, (a = 81 ∨ (83 ≤ a ∧ a ≤ 88)) → s2 a j = σ a j := fun a j q => (c a j (by omega)).trans (i1 a j q)
  refine ⟨(h1.mono hK).cp (e 81 2 (by omega)) (fun i _ _ => e 81 i (by omega)) (fun f f1 f2 j _ _ => e (81 + f) j (by omega)) (fun j _ => ?_) (fun j _ => ?_), h2.mv (fun j _ _ => e 83 j (by omega))⟩
  · rw [imgS_a, imgS_a, ir 145 j (by omega)]
  · rw [imgS_w, imgS_w, ir 148 j (by omega)]
theorem R_closeP {K K' : Int} {σ s1 s2 : zS} {L : List Rg} {ct : Int → Int} {I : Nat → Bool} {rn rn' : Bx → Int} {st st' : Int → Int} (J : InvS s2) (h : RGp K σ) (hK : K ≤ K') (i1 : imE σ s1) (k1 : irE σ s1) (c : ∀ a j, a < 143 → s2 a j = s1 a j) (k2 : irE s1 s2) (C : cSt s1 48 I rn st L ct) (M : mSt s2 rn' st' L ct) (A : asc L (ct 8)) (B : 0 ≤ ct 8 ∧ ct 8 ≤ K') (sb : stB s1 50) (Gk : gL L) : InvR K' s2 := by
  refine ⟨J, ⟨L, ct, cRs_mv C.1 (fun x j k => c x j (by omega)), fun i i1 i2 => (c 48 i (by decide)).trans (C.2.1 i i1 i2), M.1, M.2.1, A, B, (RI_at M.1 J.mi.1).2, Gk⟩, sb.mv (fun j _ _ => c 50 j (by decide)), R_im h hK i1 k1 c k2⟩
theorem R_close {K K' : Int} {σ s1 s2 : zS} {L : List Rg} {ct : Int → Int} {I : Nat → Bool} {rn rn' : Bx → Int} {st st' : Int → Int} (J : InvS s2) (h : RGp K σ) (hK : K ≤ K') (i1 : imE σ s1) (k1 : rK σ s1) (c : ∀ a j, a < 143 → s2 a j = s1 a j) (k2 : rK s1 s2) (C : cSt s1 48 I rn st L ct) (M : mSt s2 rn' st' L ct) (A : asc L (ct 8)) (B : 0 ≤ ct 8 ∧ ct 8 ≤ K') (sb : stB s1 50) (Gk : gL L) : InvR K' s2 := R_closeP J h hK i1 k1.ir c k2.ir C M A B sb Gk
/-- the rows of both sides alike, behind the call -/
theorem rn_two {s1 s2 : zS} {I : Nat → Bool} {rn : Bx → Int} {st : Int → Int} {L : List Rg} {ct : Int → Int} (C : cSt s1 48 I rn st L ct) (J : InvS s2) (c : ∀ a j, a < 143 → s2 a j = s1 a j) : rn = rowsN s2 := by
  have R := J.rw
  have e42 : ∀ j, s2 42 j = s1 42 j := fun j => c 42 j (by decide)
  have e43 : ∀ j, s2 43 j = s1 43 j := fun j => c 43 j (by decide)
  have eI : ∀ q : Nat, q < 60 → I q = inS s2 144 q := fun q hq => by
    have a1 : bq (s1 46 ((32 : Nat) : Int)) q = (I q && decide (s1 42 (q : Int) < ((32 : Nat) : Int))) := (C.2.2.2.1 32 q (Nat.le_refl _) (by omega)).1
    have a2 : bq (s2 46 ((32 : Nat) : Int)) q = (inS s2 144 q && decide (s2 42 (q : Int) < ((32 : Nat) : Int))) := (R.1.2.1 32 q (Nat.le_refl _) (by omega)).1
    have hx := CI.cp (a := 42) (j := (q : Int)) J.ci (by omega)
    rw [c 46 _ (by decide), a1, e42] at a2
    rw [e42] at hx
    rw [decide_eq_true (show s1 42 (q : Int) < ((32 : Nat) : Int) by omega), Bool.and_true, Bool.and_true] at a2
    exact a2
  funext b
  rw [← C.2.2.2.2.2 b, ← rnC_eq R]
  unfold rnC
  refine cnP_ext 60 (fun q hq => ?_)
  try dsimp only
  rw [eI q hq, e42, e43]
/-- a query done, of the class: what it makes of the regions -/
theorem k_done {σ : zS} {I : Nat → Bool} {rn : Bx → Int} {st : Int → Int} {L : List Rg} {ct : Int → Int} {B : Bx} {T : Int → Bool} {m y : Int} (H : CI σ) (S : ST σ 41 I) (hb : bOk B) (hm : 0 ≤ m ∧ m ≤ 6) (ok : ok44 σ) (hy : btE I y T) (s1 : 0 ≤ st 1) (s2 : 0 ≤ st 2) (hL : L.length ≤ 12) (hk : ∀ r ∈ L, hOk r) (hp : (L.map (fun r => r.1)).Pairwise (fun a b => ¬ bMt a b)) (C : cSt σ 48 I rn st L ct) : zP' (g_c_done m (enc B) y σ) (fun _ s => ∃ L' ct', srvR rn st B L ct L' ct' ∧ cSt s 48 I rn st L' ct') := by
  unfold g_c_done
  refine zP'.bind ((k_serve (Or.inl rfl) s1 s2 hb hL hk hp C).and (zP'.of (g_ca_serve_sp (a0 := 48) (by omega) H))) (fun _ s p => ?_)
  obtain ⟨⟨L', ct', p1, p2, p3, p4⟩, H1, G1, -⟩ := p
  have e : stE σ s := stE.of G1 (fun _ => ⟨rfl, rfl, rfl, rfl, rfl, rfl, rfl⟩)
  have S1 := ST_E S e
  try dsimp +instances only
  obtain ⟨rows, e1, e2⟩ := p_rowsIn (σ := s) (b := B) S1.2.1 hb
  rw [e1]
  rw [Option.bind_some]
  try dsimp +instances only
  have e44 : s 44 = σ 44 := funext (fun j => e 44 j (by unfold stK; omega))
  refine zP'.bind (p_fiMeasT (a := 60) (by omega) (B := B) (T := T) H1 S1 hm (fun r hr => by rw [e44]; exact ok r hr) (fun q hq => by
    rw [bq_and, e2 q (by omega)]
    cases hI : I q with
    | false => rfl
    | true => rw [hy q hq hI, Bool.true_and, Bool.true_and])) (fun _ t q => ?_)
  obtain ⟨q1, -, -, -, q5⟩ := q
  try dsimp +instances only
  refine zP'.bind q5 (fun v u q => ?_)
  refine zP'.ret ⟨L', ct', p1, ?_⟩
  dsimp only
  rw [q.1]
  exact p3.mv (fun x j k => q1 x j (by omega) (by omega) (by omega))
/-- a query asked, of the reference -/
theorem t_askedR {σ : zS} {rn : Bx → Int} {st : Int → Int} {L : List Rg} {ct : Int → Int} {q : Bx} {x t : Int} (so : stO1 st) (hR : RI σ L.length) (h : mSt σ rn st L ct) (hN2 : L.length ≤ 12) (hq : bOk q) (hb : bxA σ 152 0 = q) (ha : asc L (ct 8)) (h8 : 0 ≤ ct 8 ∧ ct 8 + 169 < 2147483648) (ht : ∀ s, frQ σ s → tstOk s t) : zP' (g_m_asked x t σ) (fun _ s => ∃ L' ct', srvR rn st q L ct L' ct' ∧ asc L' (ct' 8) ∧ (ct 8 ≤ ct' 8 ∧ ct' 8 ≤ ct 8 + 169) ∧ mSt s rn st L' ct') := by
  have l152 : zLI 152 = 4 := rfl
  obtain ⟨o1, o2, o3, o4, o5⟩ := so
  have e13 : σ 144 13 = st 2 := h.2.2.1 2 (by decide) (by decide)
  have e12 : σ 144 12 = st 1 := h.2.2.1 1 (by decide) (by decide)
  obtain ⟨s1, N1, e1, e2, e3, e4, e5⟩ := s_queries hR h.1.1 hN2 hq hb (by omega) (by omega) (by omega)
  obtain ⟨L', ct', q1, q2, q3, q4, q5⟩ := t_queries (by omega) (by omega) o4 o5 hR h hN2 hq hb ha h8 _ s1 e1
  obtain ⟨s2, m, f1, f2, f3, f4, f5⟩ := s_gathers (a := 152) (i := 0) (t := t) (σ := s1) (by omega) (by omega) (by omega) (ht s1 e5)
  obtain ⟨v, s3, g1, g2⟩ := s_asked27 (x := x) f2 m 0 zK (zu s2 144 8 (m : Int)) (by omega) (by show _ < 1000000; omega) (by rw [zu_a (by decide)]; exact f4)
  have k144 : ∀ j : Int, (j < 8 ∨ (9 ≤ j ∧ j < 200) ∨ 340 ≤ j) → s3 144 j = s1 144 j := fun j h => by
    rw [g2 144 j (by omega) (Or.inl (by decide)) (Or.inl (by decide)), zu_i (by omega), f3 144 j (Or.inl (by decide)) (by decide) (by decide)]
  have k147 : ∀ j : Int, (j = 0 ∨ 121 ≤ j) → s3 147 j = s1 147 j := fun j h => by
    rw [g2 147 j (Or.inl (by decide)) (by omega) (Or.inl (by decide)), zu_a (by decide), f3 147 j (Or.inl (by decide)) (by decide) (by decide)]
  have ee : g_m_asked x t σ = some (v, s3) := by
    unfold g_m_asked
    rw [e1]
    rw [Option.bind_some]
    try dsimp only
    rw [f1]
    simp only [Option.bind_some, f4]
    exact g1
  rw [ee]
  have hl : L'.length ≤ 12 := by
    have := q5.1.1
    omega
  exact zP'.ret ⟨L', ct', q1, q3, q4, q5.1.mv (fun j k => k144 j (by omega)) (fun j j1 j2 => k147 j (by omega)) (by omega), q5.2.1.mv (fun j j1 j2 => k144 j (by omega)) (k147 0 (by omega)), q5.2.2.mv (fun j j1 j2 => k144 j (by omega))⟩
