/-! the loop that fills a row with new things -/
def rowF (g : Nat → Nat) (i : Nat) : Nat → Option Nat := fun k => if k < i then some (g k) else none
theorem rowF_up (g : Nat → Nat) {i : Nat} (hi : i < 1000) : va_up (rowF g i) (nI i).toNatClampNeg (some (g i)) = rowF g (i + 1) := by
  rw [nI_clamp (by omega)]
  funext k
  simp only [va_up, rowF]
  by_cases h : k = i
  · subst h; simp
  · rw [if_neg h]
    by_cases h2 : k < i
    · rw [if_pos h2, if_pos (by omega)]
    · rw [if_neg h2, if_neg (by omega)]
section NL
variable {X : zX} {cc : ByteArray} {own : String} {nL lv n0 c0 s0 : Nat} {E0 R0 : List va_E} {fs : List Value} {ci a : Nat}
theorem flat_len {Bk : Nat → List va_E} {m : Nat} (hB : ∀ i, (Bk i).length = m) : ∀ i, ((List.range i).flatMap Bk).length = i * m
  | 0 => by simp
  | i + 1 => by
    rw [List.range_succ, List.flatMap_append, List.length_append, flat_len hB i, List.flatMap_cons, List.flatMap_nil, List.append_nil, hB, Nat.add_one_mul]
theorem nv_loop (hX : zOk X cc own nL lv) (hb : bOk X n0) (hn0 : n0 = E0.length + 1) (hR0 : R0.length + 1 = c0) (ha : a = X.G.sz + E0.length) {pcA pcB pcE idx idx3 k b cj t N n mc ms : Nat} {C : String} {T : u_T} {ty0 : Nat → FieldType} {gs : List Value} {vs : Nat → List Value} {Bk : Nat → List va_E} {g : Nat → Nat} (hn : n < 900)
    (hhead : ∀ (i : Nat) (E : List va_E) (ce sl : Nat), i ≤ n → (i < n → NW X pcB [some (.ref a), some (.int (nI i))] [] E ce sl) → (i = n → NW X pcE [some (.ref a), some (.int (nI i))] [] E ce sl) → NW X pcA [some (.ref a), some (.int (nI i))] [] E ce sl)
    (d1 : decode cc pcB = .ok (.aload_n 0, 1)) (lk : zLk own idx3 ci k) (hk : fs[k]? = some (.ref b)) (d2 : decode cc (pcB + 1) = .ok (.getfield idx3, 3)) (d3 : decode cc (pcB + 1 + 3) = .ok (.iload_n 1, 1))
    (lc : zLC own idx cj C T N ty0) (hgs : ∀ j, j < N → defaultValue (ty0 j) = vp_V gs j) (d4 : decode cc (pcB + 1 + 3 + 1) = .ok (.new idx, 3)) (hv : ∀ i, i < n → g i = X.G.sz + (E0.length + 1 + (c0 + i * (mc + 1)))) (d5 : decode cc (pcB + 1 + 3 + 1 + 3) = .ok (.dup, 1))
    (hcall : ∀ (i : Nat) (E : List va_E) (ce sl : Nat), i < n → E.length + 1 = n0 + ce → E.length = E0.length + 1 + (c0 + i * (mc + 1)) → ce + mc ≤ X.R.cells → sl + ms ≤ X.R.slots → NW X (pcB + 1 + 3 + 1 + 3 + 1 + 3) [some (.ref a), some (.int (nI i))] (.ref (g i) :: .int (nI i) :: .ref b :: []) (E ++ Bk i) (ce + mc) (sl + ms) → NW X (pcB + 1 + 3 + 1 + 3 + 1) [some (.ref a), some (.int (nI i))] (.ref (g i) :: .ref (g i) :: .int (nI i) :: .ref b :: []) (E ++ [.inr (cj, gs)]) ce sl)
    (hbb : b = X.G.sz + (E0.length + 1 + R0.length)) (ht : (zty X.G)[t]? = some (X.G.cA t, .object C)) (hB : ∀ i, (Bk i)[0]? = some (.inr (cj, vs i))) (hBl : ∀ i, (Bk i).length = mc + 1) (d6 : decode cc (pcB + 1 + 3 + 1 + 3 + 1 + 3) = .ok (.aastore, 1)) (hc : c0 + n * (mc + 1) ≤ X.R.cells) (hs : s0 + n * (N + ms) ≤ X.R.slots)
    (htail : ∀ (i : Nat) (E : List va_E) (ce sl : Nat), i < n → NW X pcA [some (.ref a), some (.int (nI (i + 1)))] [] E ce sl → NW X (pcB + 1 + 3 + 1 + 3 + 1 + 3 + 1) [some (.ref a), some (.int (nI i))] [] E ce sl)
    (kk : NW X pcE [some (.ref a), some (.int (nI n))] [] (E0 ++ .inr (ci, fs) :: (R0 ++ .inl (X.G.cA t, n, .inr (.inr (.inr (.inr (rowF g n))))) :: (List.range n).flatMap Bk)) (c0 + n * (mc + 1)) (s0 + n * (N + ms))) :
    ∀ (m i : Nat), m + i = n → NW X pcA [some (.ref a), some (.int (nI i))] [] (E0 ++ .inr (ci, fs) :: (R0 ++ .inl (X.G.cA t, n, .inr (.inr (.inr (.inr (rowF g i))))) :: (List.range i).flatMap Bk)) (c0 + i * (mc + 1)) (s0 + i * (N + ms)) := by
  intro m
  induction m with
  | zero =>
    intro i hi
    have e : i = n := by omega
    subst e
    exact hhead _ _ _ _ (Nat.le_refl _) (fun h => absurd h (by omega)) (fun _ => kk)
  | succ m ih =>
    intro i hi
    have hlt : i < n := by omega
    have hm1 : (i + 1) * (mc + 1) = i * (mc + 1) + (mc + 1) := Nat.add_one_mul _ _
    have hm2 : (i + 1) * (N + ms) = i * (N + ms) + (N + ms) := Nat.add_one_mul _ _
    have hm3 : (i + 1) * (mc + 1) ≤ n * (mc + 1) := Nat.mul_le_mul_right _ hlt
    have hm4 : (i + 1) * (N + ms) ≤ n * (N + ms) := Nat.mul_le_mul_right _ hlt
    have hfl : ((List.range i).flatMap Bk).length = i * (mc + 1) := flat_len hBl i
    refine hhead _ _ _ _ (by omega) (fun _ => ?_) (fun h => absurd h (by omega))
    refine nv_it (B := Bk i) (v := g i) (mc := mc) (ms := ms) hX hb hn0 (by rw [hfl]; omega) rfl ha rfl d1 lk hk d2 d3 lc hgs d4 (hv i hlt) d5 (hcall i _ _ _ hlt (by simp [hn0, hfl]; omega) (by simp [hfl]; omega) (by omega) (by omega)) hbb ht (hB i) (vp_in_nI hlt (by omega)) d6 (by omega) (by omega) ?_
    rw [rowF_up g (by omega)]
    refine htail i _ _ _ hlt ?_
    refine bw_cong ?_ ?_ ?_ (ih (i + 1) (by omega))
    · rw [List.range_succ, List.flatMap_append, List.flatMap_cons, List.flatMap_nil, List.append_nil]
    · omega
    · omega
end NL
