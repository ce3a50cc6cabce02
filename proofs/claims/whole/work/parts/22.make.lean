theorem c_afill {X : Nat × (Nat → Int32)} {d ra na : Nat} {M : q_M} {v : Int32} {K : q_M → Prop} (hr : q_lay[ra]? = some (.inr (.inl na))) (hna : na < 2 ^ 31) (h : ∀ M', (∀ k, k ≠ ra → M' k = M k) → (∀ j, j < na → M' ra j = v) → K M') : q_Cv X d 158 [.ref ra, .int v] M K := by
  refine vc158 hr ?_
  have loop : ∀ (j i : Nat) (M1 : q_M), i + j = na → (∀ k, k ≠ ra → M1 k = M k) → (∀ t, t < i → M1 ra t = v) → q_Ex X d 158 5 [some (.ref ra), some (.int v), some (.int (nI i)), some (.int (Int32.ofNat na))] [] M1 (q_rn K) := by
    intro j
    induction j with
    | zero =>
      intro i M1 hi g1 g2
      refine vc158_p5 hr ⟨fun _ => h M1 g1 (fun t ht => g2 t (by omega)), fun g => absurd ((q_le hna (by omega)).mpr (by omega)) g⟩
    | succ j ih =>
      intro i M1 hi g1 g2
      refine vc158_p5 hr ⟨fun g => absurd ((q_le hna (by omega)).mp g) (by omega), fun _ => ⟨q_vi (by omega) hna, ?_⟩⟩
      rw [q_cn (by omega), nI_1]
      refine ih (i + 1) _ (by omega) (fun k hk => by rw [q_set_n hk]; exact g1 k hk) (fun t ht => ?_)
      rw [q_set_ap]
      by_cases e : t = i
      · rw [if_pos ⟨rfl, e⟩]
      · rw [if_neg (fun q => e q.2)]; exact g2 t (by omega)
  exact loop na 0 M (by omega) (fun _ _ => rfl) (fun t ht => by omega)
/-- bits of doors' and wells' cells of the first k -/
def g_dw (dc wc : Nat → Nat) : Nat → Nat
  | 0 => 0
  | k + 1 => g_dw dc wc k ||| (2 ^ dc k ||| 2 ^ wc k)
/-- what is left of the bits of a without those of b -/
def g_and_not (a b : Nat) : Nat := a &&& (2 ^ 30 - 1 - b)
theorem n_not : ∀ c, c < 30 → (1 : Int32) <<< (nI c &&& 31) ^^^ (-1) = ~~~ (nI (2 ^ c)) := by decide +kernel
theorem n_clr1 {a c : Nat} (ha : a < 2 ^ 30) (hc : c < 30) : ∃ b, b < 2 ^ 30 ∧ nI a &&& ((1 : Int32) <<< (nI c &&& 31) ^^^ (-1)) = nI b ∧ ∀ i, b.testBit i = (a.testBit i && !(decide (i = c))) := by
  refine ⟨a &&& (2 ^ 30 - 1 - 2 ^ c), Nat.lt_of_le_of_lt Nat.and_le_left ha, ?_, fun i => ?_⟩
  · rw [n_sh c (by omega)]
    apply Int32.toBitVec_inj.1
    show BitVec.ofNat 32 a &&& (BitVec.ofNat 32 (2 ^ c) ^^^ (-1 : Int32).toBitVec) = BitVec.ofNat 32 (a &&& (2 ^ 30 - 1 - 2 ^ c))
    apply BitVec.eq_of_getLsbD_eq
    intro i hi
    have e1 : ((-1 : Int32).toBitVec).getLsbD i = true := (show ∀ i, i < 32 → ((-1 : Int32).toBitVec).getLsbD i = true by decide +kernel) i hi
    have e2 : (2 ^ 30 - 1 - 2 ^ c).testBit i = (decide (i < 30) && !(decide (i = c))) := by
      rw [show 2 ^ 30 - 1 - 2 ^ c = 2 ^ 30 - (2 ^ c + 1) by omega, Nat.testBit_two_pow_sub_succ (Nat.pow_lt_pow_right (by decide) hc), Nat.testBit_two_pow]
      congr 1
      simp [eq_comm]
    have e3 : i < 30 ∨ a.testBit i = false := by
      rcases Nat.lt_or_ge i 30 with h | h
      · exact Or.inl h
      · exact Or.inr (Nat.testBit_lt_two_pow (Nat.lt_of_lt_of_le ha (Nat.pow_le_pow_right (by decide) h)))
    simp only [BitVec.getLsbD_and, BitVec.getLsbD_xor, BitVec.getLsbD_ofNat, e1, Nat.testBit_and, Nat.testBit_two_pow, hi, decide_true, Bool.true_and, e2]
    rcases e3 with h | h
    · simp [h, eq_comm]
    · simp [h]
  · have e2 : (2 ^ 30 - 1 - 2 ^ c).testBit i = (decide (i < 30) && !(decide (i = c))) := by
      rw [show 2 ^ 30 - 1 - 2 ^ c = 2 ^ 30 - (2 ^ c + 1) by omega, Nat.testBit_two_pow_sub_succ (Nat.pow_lt_pow_right (by decide) hc), Nat.testBit_two_pow]
      congr 1
      simp [eq_comm]
    rw [Nat.testBit_and, e2]
    rcases Nat.lt_or_ge i 30 with h | h
    · simp [h]
    · rw [Nat.testBit_lt_two_pow (Nat.lt_of_lt_of_le ha (Nat.pow_le_pow_right (by decide) h))]; simp
