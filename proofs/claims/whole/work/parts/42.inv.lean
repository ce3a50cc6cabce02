/-! what holds between calls -/
abbrev p_T : Type := Nat × Nat × Nat × (Nat → Nat) × (Nat → Nat) × (Nat → Nat) × (Nat → Nat) × (Nat → Nat) × Nat × Nat × Nat × Nat × (Nat → Nat) × (Nat → Nat) × (Nat → Nat → Nat)
def h_ok : p_T → Prop
  | (R, C, n, kd, co, nu, dc, wc, _, w, o, ks, se, ln, st) => b_wf R C n kd co nu dc wc ∧ w < 5 ∧ o < 1000 ∧ o < 10 ^ n ∧ (∀ d, d < n → o / 10 ^ d % 10 < n) ∧ ks ≤ 4 ∧ (∀ j, j < ks → se j < R * C) ∧ ∀ d, d < 3 → ln d ≤ 10 ∧ ∀ j, j < ln d → st d j < 2
def h_num : p_T → Nat
  | (_, _, _, _, _, _, _, _, num, _) => num
def h_c (M : q_M) (iH iS iSe iL iSt : Nat) : p_T → Prop
  | (R, C, n, kd, co, nu, dc, wc, num, w, o, ks, se, ln, st) => b_c M iS (iS + 1) (iS + 2) (iS + 3) (iS + 4) (iS + 5) R C n kd co nu dc wc ∧ M iH 1 = nI num ∧ M iH 2 = nI w ∧ M iH 3 = nI o ∧ M iH 4 = nI ks ∧ (∀ j, j < ks → M iSe j = nI (se j)) ∧ ∀ d, d < 3 → M iL d = nI (ln d) ∧ ∀ j, j < ln d → M (iSt + d) j = nI (st d j)
def h_r (s : Nat → Int32) : p_T → Prop
  | (R, C, n, kd, co, nu, _, _, _, w, o, ks, se, ln, st) => b_s s R C n kd co nu ∧ s 3 = nI w ∧ (∀ d, d < n → s (4 + d) = nI (o / 10 ^ d % 10)) ∧ s 7 = nI ks ∧ (∀ j, j < ks → s (8 + j) = nI (se j)) ∧ ∀ d, d < 3 → s (12 + d) = nI (ln d) ∧ ∀ j, j < ln d → s (15 + 10 * d + j) = nI (st d j)
def h_k (M : q_M) : p_T → Prop
  | (R, C, n, kd, co, nu, dc, wc, _) => k_ok M R C n kd co nu dc wc
def h_F : p_T → List (List (List Nat))
  | (R, C, n, kd, _, nu, dc, _, _, w, o, _) => g_law (g_W R C kd dc) nu w o n
def h_n : p_T → Nat
  | (_, _, n, _) => n
def g_im (img : Bool) : Int32 := if img then 1 else 0
def IP (t L S : Nat) (tp : Nat → Nat) (h g : p_T) (img : Bool) : Prop := L ≤ 48 ∧ (∀ j, j < L → tp j < 256) ∧ S ≤ t ∧ t ≤ 600 ∧ h_num h ≤ S ∧ h_ok h ∧ (img = true → h_num g ≤ S ∧ h_ok g ∧ (h_num h = h_num g → ∀ M, h_k M h → h_k M g))
def IC (M : q_M) (L S : Nat) (tp : Nat → Nat) (rf : Nat → Int32) (h g : p_T) (img : Bool) : Prop := M 0 1 = nI L ∧ (∀ j, j < L → M 1 j = nI (tp j)) ∧ (∀ j, 1 ≤ j → j < 7 → M 2 j = rf j) ∧ M 0 14 = nI S ∧ (M 0 15 = -1 ∨ ∃ s, s ≤ S ∧ M 0 15 = nI s) ∧ h_c M 10 11 18 19 21 h ∧ c_rk M (h_F h) ∧ (M 0 15 = nI (h_num h) → h_k M h) ∧ M 0 6 = g_im img ∧ (img = true → h_c M 24 25 32 33 35 g ∧ (M 0 15 = nI (h_num g) → h_k M g))
def IR (M : q_M) (L : Nat) (tp : Nat → Nat) (rf : Nat → Int32) (h g : p_T) (img : Bool) : Prop := M 97 6 = nI L ∧ (∀ j, j < L → M 102 j = nI (tp j)) ∧ (∀ j, 1 ≤ j → j < 7 → M 98 j = rf j) ∧ h_r (M 99) h ∧ M 97 4 = g_im img ∧ (img = true → h_r (M 100) g)
def Inv (t : Nat) (M : q_M) : Prop := ∃ L S tp rf h g img, IP t L S tp h g img ∧ IC M L S tp rf h g img ∧ IR M L tp rf h g img
section Inv
variable {X : Nat × (Nat → Int32)} {t L S : Nat} {tp : Nat → Nat} {rf : Nat → Int32} {h g : p_T} {img : Bool} {M M' : q_M}
theorem h_c.eq {iH iS iSe iL iSt : Nat} (hc : h_c M iH iS iSe iL iSt h) (e : ∀ k, (k = iH ∨ (iS ≤ k ∧ k ≤ iS + 5) ∨ k = iSe ∨ k = iL ∨ (iSt ≤ k ∧ k ≤ iSt + 2)) → M' k = M k) : h_c M' iH iS iSe iL iSt h := by
  obtain ⟨R, C, n, kd, co, nu, dc, wc, num, w, o, ks, se, ln, st⟩ := h
  obtain ⟨c1, c2, c3, c4, c5, c6, c7⟩ := hc
  refine ⟨?_, by rw [e iH (by omega)]; exact c2, by rw [e iH (by omega)]; exact c3, by rw [e iH (by omega)]; exact c4, by rw [e iH (by omega)]; exact c5, fun j hj => by rw [e iSe (by omega)]; exact c6 j hj, fun d hd => ?_⟩
  · unfold b_c at c1 ⊢
    rw [e iS (by omega), e (iS + 1) (by omega), e (iS + 2) (by omega), e (iS + 3) (by omega), e (iS + 4) (by omega), e (iS + 5) (by omega)]
    exact c1
  · rw [e iL (by omega), e (iSt + d) (by omega)]; exact c7 d hd
theorem h_k.eq (hk : h_k M h) (ho : h_ok h) (e : ∀ k, 44 ≤ k → k ≤ 53 ∨ (64 ≤ k ∧ k ≤ 87) → M' k = M k) : h_k M' h := by
  obtain ⟨R, C, n, kd, co, nu, dc, wc, num, w, o, ks, se, ln, st⟩ := h
  have hk' : k_ok M R C n kd co nu dc wc := hk
  exact hk'.eq ho.1.2.2.1 e
theorem h_c.num {iH iS iSe iL iSt : Nat} (hc : h_c M iH iS iSe iL iSt h) : M iH 1 = nI (h_num h) := by
  obtain ⟨R, C, n, kd, co, nu, dc, wc, num, w, o, ks, se, ln, st⟩ := h
  exact hc.2.1
theorem IC.q (hP : IP t L S tp h g img) (hC : IC M L S tp rf h g img) (e1 : ∀ k, k ≠ 0 → k < 44 → k ≠ 17 → M' k = M k) (e0 : ∀ j, j ≠ 15 → j ≠ 16 → M' 0 j = M 0 j) (sd : (M' 0 15 = M 0 15 ∧ ∀ k, 44 ≤ k → (k ≤ 53 ∨ (64 ≤ k ∧ k ≤ 87)) → M' k = M k) ∨ (M' 0 15 = M' 10 1 ∧ h_k M' h)) (rk : c_rk M' (h_F h)) : IC M' L S tp rf h g img := by
  obtain ⟨c1, c2, c3, c4, c5, c6, c7, c8, c9, c10⟩ := hC
  obtain ⟨p1, p2, p3, p4, p5, p6, p7⟩ := hP
  have hc' : h_c M' 10 11 18 19 21 h := c6.eq (fun k hk => e1 k (by omega) (by omega) (by omega))
  have hn := hc'.num
  have gc' : img = true → h_c M' 24 25 32 33 35 g := fun i => (c10 i).1.eq (fun k hk => e1 k (by omega) (by omega) (by omega))
  rcases sd with ⟨s1, s2⟩ | ⟨s1, s2⟩
  · refine ⟨by rw [e0 1 (by decide) (by decide)]; exact c1, fun j hj => by rw [e1 1 (by decide) (by decide) (by decide)]; exact c2 j hj, fun j a b => by rw [e1 2 (by decide) (by decide) (by decide)]; exact c3 j a b, by rw [e0 14 (by decide) (by decide)]; exact c4, by rw [s1]; exact c5, hc', rk, fun q => ?_, by rw [e0 6 (by decide) (by decide)]; exact c9, fun i => ⟨gc' i, fun q => ?_⟩⟩
    · rw [s1] at q
      exact (c8 q).eq p6 s2
    · rw [s1] at q
      exact ((c10 i).2 q).eq (p7 i).2.1 s2
  · refine ⟨by rw [e0 1 (by decide) (by decide)]; exact c1, fun j hj => by rw [e1 1 (by decide) (by decide) (by decide)]; exact c2 j hj, fun j a b => by rw [e1 2 (by decide) (by decide) (by decide)]; exact c3 j a b, by rw [e0 14 (by decide) (by decide)]; exact c4, Or.inr ⟨h_num h, p5, by rw [s1, hn]⟩, hc', rk, fun _ => s2, by rw [e0 6 (by decide) (by decide)]; exact c9, fun i => ⟨gc' i, fun q => ?_⟩⟩
    rw [s1, hn] at q
    have := (p7 i).1
    have e : h_num h = h_num g := (q_eq (by omega) (by omega)).mp q
    exact (p7 i).2.2 e M' s2
theorem IC.hi (hP : IP t L S tp h g img) (hC : IC M L S tp rf h g img) (e : ∀ k, k < 97 → M' k = M k) : IC M' L S tp rf h g img :=
  hC.q hP (fun k _ a _ => e k (by omega)) (fun j _ _ => by rw [e 0 (by decide)]) (Or.inl ⟨by rw [e 0 (by decide)], fun k _ a => e k (by omega)⟩) (hC.2.2.2.2.2.2.1.eq (by rw [e 0 (by decide)]) (e 89 (by decide)))
theorem IR.lo (hR : IR M L tp rf h g img) (e : ∀ k, 97 ≤ k → M' k = M k) : IR M' L tp rf h g img := by
  obtain ⟨c1, c2, c3, c4, c5, c6⟩ := hR
  exact ⟨by rw [e 97 (by decide)]; exact c1, fun j hj => by rw [e 102 (by decide)]; exact c2 j hj, fun j a b => by rw [e 98 (by decide)]; exact c3 j a b, by rw [e 99 (by decide)]; exact c4, by rw [e 97 (by decide)]; exact c5, fun i => by rw [e 100 (by decide)]; exact c6 i⟩
theorem IR.q (hR : IR M L tp rf h g img) (f : r_fr M M') : IR M' L tp rf h g img := by
  obtain ⟨c1, c2, c3, c4, c5, c6⟩ := hR
  obtain ⟨f1, f2, f3⟩ := f
  exact ⟨by rw [f3]; exact c1, fun j hj => by rw [f1 102 (by omega)]; exact c2 j hj, fun j a b => by rw [f1 98 (by omega)]; exact c3 j a b, by rw [f1 99 (by omega)]; exact c4, by rw [f2]; exact c5, fun i => by rw [f1 100 (by omega)]; exact c6 i⟩
theorem IP.up (hP : IP t L S tp h g img) (ht : t < 600) : IP (t + 1) L S tp h g img := by
  obtain ⟨p1, p2, p3, p4, p5⟩ := hP
  exact ⟨p1, p2, by omega, by omega, p5⟩
/-- the end of a query: the class's world, then the reference's -/
theorem Inv.q {M1 M2 : q_M} (ht : t < 600) (hP : IP t L S tp h g img) (hC : IC M1 L S tp rf h g img) (hR : IR M1 L tp rf h g img) (f : r_fr M1 M2) : Inv (t + 1) M2 := ⟨L, S, tp, rf, h, g, img, hP.up ht, hC.hi hP (fun k hk => f.1 k (by omega)), hR.q f⟩
/-! refusals -/
theorem cx_ref {d p : Nat} {a : Int32} {K : Int32 → q_M → Prop} (hp : -a = nI p) (h1 : 1 ≤ p) (h2 : p < 7) (hP : IP t L S tp h g img) (hC : IC M L S tp rf h g img) (k : ∀ M2, (∀ k, k ≠ 2 → M2 k = M k) → IC M2 L S tp (p_up rf p (rf p + 1)) h g img → K a M2) : q_Ci X d 72 [.ref 0, .int a] M K := by
  refine c_refuse p hp (by omega) h2 (k _ (fun k hk => q_set_n hk) ?_)
  have e := hC.2.2.1
  have hq : IC (q_set M 2 p (M 2 p + 1)) L S tp (fun j => if 1 ≤ j ∧ j < 7 then (q_set M 2 p (M 2 p + 1)) 2 j else rf j) h g img := by
    obtain ⟨c1, c2, c3, c4, c5, c6, c7, c8, c9, c10⟩ := hC
    have p6 := hP.2.2.2.2.2.1
    have p7 := hP.2.2.2.2.2.2
    refine ⟨by rw [q_set_n (by decide)]; exact c1, fun j hj => by rw [q_set_n (by decide)]; exact c2 j hj, fun j a b => (if_pos (And.intro a b)).symm, by rw [q_set_n (by decide)]; exact c4, by rw [q_set_n (by decide)]; exact c5, c6.eq (fun k hk => q_set_n (by omega)), c7.eq (by rw [q_set_n (by decide)]) (q_set_n (by decide)), fun q => (c8 (by rw [q_set_n (by decide)] at q; exact q)).eq p6 (fun k a b => q_set_n (by omega)), by rw [q_set_n (by decide)]; exact c9, fun i => ⟨(c10 i).1.eq (fun k hk => q_set_n (by omega)), fun q => ((c10 i).2 (by rw [q_set_n (by decide)] at q; exact q)).eq (p7 i).2.1 (fun k a b => q_set_n (by omega))⟩⟩
  obtain ⟨c1, c2, c3, c4⟩ := hq
  refine ⟨c1, c2, fun j a b => ?_, c4⟩
  rw [q_set_ap]
  by_cases z : j = p
  · subst z; rw [if_pos ⟨rfl, rfl⟩, p_up_s, e j a b]
  · rw [if_neg (fun y => z y.2), p_up_n z]; exact e j a b
theorem rx_ref {d p : Nat} {a : Int32} {K : Int32 → q_M → Prop} (hp : -a = nI p) (h1 : 1 ≤ p) (h2 : p < 7) (hR : IR M L tp rf h g img) (k : ∀ M2, (∀ k, k ≠ 98 → M2 k = M k) → IR M2 L tp (p_up rf p (rf p + 1)) h g img → K a M2) : q_Ci X d 91 [.ref 97, .int a] M K := by
  refine r_refuse p hp h2 (k _ (fun k hk => q_set_n hk) ?_)
  obtain ⟨c1, c2, c3, c4, c5, c6⟩ := hR
  refine ⟨by rw [q_set_n (by decide)]; exact c1, fun j hj => by rw [q_set_n (by decide)]; exact c2 j hj, fun j a b => ?_, by rw [q_set_n (by decide)]; exact c4, by rw [q_set_n (by decide)]; exact c5, fun i => by rw [q_set_n (by decide)]; exact c6 i⟩
  rw [q_set_ap]
  by_cases z : j = p
  · subst z; rw [if_pos ⟨rfl, rfl⟩, p_up_s, c3 j a b]
  · rw [if_neg (fun y => z y.2), p_up_n z]; exact c3 j a b
/-- two calls, one behind the other -/
def q_two (X : Nat × (Nat → Int32)) (d i j : Nat) (As Bs : List Value) (M : q_M) (K : Int32 → Int32 → q_M → Prop) : Prop := q_Ci X d i As M (fun r M2 => q_Ci X d j Bs M2 (fun r' M4 => K r r' M4))
/-- the second refuses as the first did -/
theorem Inv.refR {d p : Nat} {a : Int32} {M2 : q_M} {K : Int32 → q_M → Prop} (ht : t < 600) (hp : -a = nI p) (h1 : 1 ≤ p) (h2 : p < 7) (hP : IP t L S tp h g img) (hC : IC M2 L S tp (p_up rf p (rf p + 1)) h g img) (hR : IR M2 L tp rf h g img) (k : ∀ M4, Inv (t + 1) M4 → K a M4) : q_Ci X d 91 [.ref 97, .int a] M2 K :=
  rx_ref hp h1 h2 hR (fun M4 f R4 => k M4 ⟨L, S, tp, _, h, g, img, hP.up ht, hC.hi hP (fun k hk => f k (by omega)), R4⟩)
/-! what the parts say of one board -/
theorem h_r.b {s : Nat → Int32} {R C n : Nat} {kd co nu dc wc : Nat → Nat} {num w o ks : Nat} {se ln : Nat → Nat} {st : Nat → Nat → Nat} (hr : h_r s (R, C, n, kd, co, nu, dc, wc, num, w, o, ks, se, ln, st)) (e : M 99 = s) : r_b M R C n kd co nu := by
  obtain ⟨⟨a1, a2, a3, a4⟩, -⟩ := hr
  subst e
  refine ⟨a1, a2, a3, fun c hc => ?_⟩
  obtain ⟨b1, b2, b3⟩ := a4 c hc
  refine ⟨b1, b2, fun k2 => ?_⟩
  rw [b3]
  unfold g_numb
  rw [if_neg (by omega)]
theorem h_r.st {s : Nat → Int32} {R C n : Nat} {kd co nu dc wc : Nat → Nat} {num w o ks : Nat} {se ln : Nat → Nat} {st : Nat → Nat → Nat} (ho : h_ok (R, C, n, kd, co, nu, dc, wc, num, w, o, ks, se, ln, st)) (hr : h_r s (R, C, n, kd, co, nu, dc, wc, num, w, o, ks, se, ln, st)) (e : M 99 = s) : r_st M (R * C) n w o ks se ∧ r_tw M ln st := by
  obtain ⟨-, a2, a3, a4, a5, a6⟩ := hr
  obtain ⟨o1, o2, o3, o4, o5, o6, o7, o8⟩ := ho
  subst e
  exact ⟨⟨a2, o2, fun d hd => ⟨a3 d hd, o5 d hd⟩, a4, o6, fun j hj => ⟨a5 j hj, o7 j hj⟩⟩, fun d hd => ⟨(a6 d hd).1, (o8 d hd).1, fun j hj => ⟨(a6 d hd).2 j hj, (o8 d hd).2 j hj⟩⟩⟩
theorem h_c.q {R C n : Nat} {kd co nu dc wc : Nat → Nat} {num w o ks : Nat} {se ln : Nat → Nat} {st : Nat → Nat → Nat} (ho : h_ok (R, C, n, kd, co, nu, dc, wc, num, w, o, ks, se, ln, st)) (hc : h_c M 10 11 18 19 21 (R, C, n, kd, co, nu, dc, wc, num, w, o, ks, se, ln, st)) (hk : M 0 15 = nI num → k_ok M R C n kd co nu dc wc) : c_q M R C n kd co nu dc wc w o ∧ c_sn M (R * C) ks se ∧ c_tw M ln st := by
  obtain ⟨a1, a2, a3, a4, a5, a6, a7⟩ := hc
  obtain ⟨o1, o2, o3, o4, o5, o6, o7, o8⟩ := ho
  exact ⟨⟨a1, ⟨a3, o2, a4, o3, o5⟩, fun q => hk (by rw [q, a2])⟩, ⟨a5, o6, fun j hj => ⟨a6 j hj, o7 j hj⟩⟩, fun d hd => ⟨(a7 d hd).1, (o8 d hd).1, fun j hj => ⟨(a7 d hd).2 j hj, (o8 d hd).2 j hj⟩⟩⟩
theorem r_isSlope {d R : Nat} {K : Int32 → q_M → Prop} (hM : M 99 0 = nI R) (hR : R < 2 ^ 31) (h1 : 0 < R → K 1 M) (h2 : R = 0 → K 0 M) : q_Ci X d 124 [.ref 97] M K := by
  refine vc124 ?_
  rw [hM, show (0 : Int32) = nI 0 from rfl, q_le hR (by decide)]
  exact ⟨fun g => h2 (by omega), fun g => h1 (by omega)⟩
theorem r_isCell {d R C n : Nat} {kd co nu : Nat → Nat} {a : Int32} {K : Int32 → q_M → Prop} (hd : 0 < d) (hb : r_b M R C n kd co nu) (hN : R * C < 2 ^ 31) (h1 : ∀ j, j < R * C → a = nI j → K 1 M) (h2 : (∀ j, j < R * C → a ≠ nI j) → K 0 M) : q_Ci X d 96 [.ref 97, .int a] M K := by
  refine vc96 hd (r_cells hb (r_isIn (fun g1 g2 => ⟨Or.inr rfl, ?_⟩) (fun g1 => ⟨Or.inl rfl, ?_⟩)))
  · obtain ⟨j, hj, e⟩ := q_in_nn rfl hN g1 g2
    exact h1 j hj e
  · refine h2 (fun j hj e => ?_)
    rcases g1 with q | q
    · rw [e] at q; exact q_nlt0 (by omega) q
    · rw [e] at q; exact q ((q_lt (by omega) hN).mpr hj)
theorem r_isDoor {d n : Nat} {a : Int32} {K : Int32 → q_M → Prop} (hd : 0 < d) (hn : M 99 2 = nI n) (hN : n < 2 ^ 31) (h1 : ∀ j, j < n → a = nI j → K 1 M) (h2 : (∀ j, j < n → a ≠ nI j) → K 0 M) : q_Ci X d 97 [.ref 97, .int a] M K := by
  refine vc97 hd ?_
  rw [hn]
  refine r_isIn (fun g1 g2 => ⟨Or.inr rfl, ?_⟩) (fun g1 => ⟨Or.inl rfl, ?_⟩)
  · obtain ⟨j, hj, e⟩ := q_in_nn rfl hN g1 g2
    exact h1 j hj e
  · refine h2 (fun j hj e => ?_)
    rcases g1 with q | q
    · rw [e] at q; exact q_nlt0 (by omega) q
    · rw [e] at q; exact q ((q_lt (by omega) hN).mpr hj)
/-- what a query leaves of the class -/
theorem IC.qh {R C n : Nat} {kd co nu dc wc : Nat → Nat} {num w o ks : Nat} {se ln : Nat → Nat} {st : Nat → Nat → Nat} (hP : IP t L S tp (R, C, n, kd, co, nu, dc, wc, num, w, o, ks, se, ln, st) g img) (hC : IC M L S tp rf (R, C, n, kd, co, nu, dc, wc, num, w, o, ks, se, ln, st) g img) (f : h_fr M M') (e : M' 0 15 = M' 10 1) (k : k_ok M' R C n kd co nu dc wc) : IC M' L S tp rf (R, C, n, kd, co, nu, dc, wc, num, w, o, ks, se, ln, st) g img :=
  hC.q hP (fun k a b _ => f.1 k a (by omega)) (fun j a _ => f.2 j a) (Or.inr ⟨e, k⟩) (hC.2.2.2.2.2.2.1.eq (f.2 16 (by decide)) (f.1 89 (by decide) (by omega)))
theorem IC.qc {R C n : Nat} {kd co nu dc wc : Nat → Nat} {num w o ks : Nat} {se ln : Nat → Nat} {st : Nat → Nat → Nat} (hP : IP t L S tp (R, C, n, kd, co, nu, dc, wc, num, w, o, ks, se, ln, st) g img) (hC : IC M L S tp rf (R, C, n, kd, co, nu, dc, wc, num, w, o, ks, se, ln, st) g img) (f : c_fr M M') (sd : c_sd M M' R C n kd co nu dc wc) (rk : c_rk M' (g_law (g_W R C kd dc) nu w o n)) : IC M' L S tp rf (R, C, n, kd, co, nu, dc, wc, num, w, o, ks, se, ln, st) g img :=
  hC.q hP (fun k a b c => f.1 k a (by omega) c) (fun j a b => f.2 j a b) sd rk
theorem fr_hi {M1 M2 : q_M} (f : h_fr M1 M2) : ∀ k, 97 ≤ k → M2 k = M1 k := fun k hk => f.1 k (by omega) (by omega)
theorem fr_c {M1 M2 : q_M} (f : c_fr M1 M2) : ∀ k, 97 ≤ k → M2 k = M1 k := fun k hk => f.1 k (by omega) (by omega) (by omega)
end Inv
