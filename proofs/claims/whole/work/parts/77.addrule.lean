/-! a rule read and added -/
def aK (x3 : Int) (μ : q_M) (x17 x18 x19 : Int) : Option (Int × q_M) :=
  q_jn (
      q_ck ((-100) - x17) fun x30 =>
      some (x30, μ)
  ) fun (j197 : Option (Int × q_M)) =>
  if x18 = 0 then
    j197
  else
    q_fl μ 0 4 fun x31 =>
    if x31 ≤ x17 then
      q_fl μ 0 6 fun x32 =>
      if x32 = 12 then
        some ((-100005), μ)
      else
        q_fl μ 0 6 fun x33 =>
        q_jn (fun (x34 : Int) =>
            q_st μ 4 12 x33 x34 fun μ35 =>
            q_fl μ35 0 6 fun x36 =>
            q_ld μ35 3 20 1 fun x37 =>
            q_ck (x37 - 97) fun x38 =>
            q_st μ35 5 12 x36 x38 fun μ39 =>
            q_fl μ39 0 6 fun x40 =>
            q_ld μ39 3 20 2 fun x41 =>
            q_jn (fun (x42 : Int) =>
                q_st μ39 6 12 x40 x42 fun μ43 =>
                q_fl μ43 0 6 fun x44 =>
                q_st μ43 7 12 x44 x19 fun μ45 =>
                q_fl μ45 0 6 fun x46 =>
                q_ck (x46 + 1) fun x47 =>
                q_fs μ45 0 6 x47 fun μ48 =>
                q_fl μ48 0 6 fun x49 =>
                q_ck (x49 - 1) fun x50 =>
                some (x50, μ48)
            ) fun (j314 : Int → Option (Int × q_M)) =>
            if x41 = 60 then
              j314 0
            else
              q_ld μ39 3 20 2 fun x51 =>
              if x51 = 62 then
                j314 1
              else
                j314 2
        ) fun (j256 : Int → Option (Int × q_M)) =>
        if x3 = 0 then
          q_ld μ 3 20 0 fun x54 =>
          if x54 = 42 then
            j256 8
          else
            j256 9
        else
          q_ld μ 3 20 0 fun x56 =>
          q_ck (x56 - 48) fun x57 =>
          j256 x57
    else
      j197
def aR (N : Nat) (x3 : Int) (μ : q_M) : Option (Int × q_M) :=
  q_b (f_M_isAt 1 97 μ) fun x5 =>
  q_jn (
      q_b (f_M_isAt 2 60 μ) fun x7 =>
      q_jn (fun (x8 : Int) =>
          q_jn (fun (x9 : Int) =>
              q_ck (2 + x9) fun x10 =>
              q_b (f_M_isAt x10 61 μ) fun x12 =>
              if x12 = 0 then
                q_ck ((-100) - x10) fun x62 =>
                some (x62, μ)
              else
                q_ck (x10 + 1) fun x13 =>
                f_M_addRule_L144 μ
                    (aK x3 μ)
                    N x13 0 0
          ) fun (j118 : Int → Option (Int × q_M)) =>
          if x8 = 0 then
            j118 0
          else
            j118 1
      ) fun (j107 : Int → Option (Int × q_M)) =>
      q_jn (
          j107 1
      ) fun (j102 : Option (Int × q_M)) =>
      if x7 = 0 then
        q_b (f_M_isAt 2 62 μ) fun x66 =>
        if x66 = 0 then
          j107 0
        else
          j102
      else
        j102
  ) fun (j80 : Option (Int × q_M)) =>
  if x5 = 0 then
    q_b (f_M_isAt 1 98 μ) fun x70 =>
    if x70 = 0 then
      some ((-101), μ)
    else
      j80
  else
    j80
def sjf (c n : Int) : Int := if c = 42 then 8 else if c = 126 then 9 else if 48 ≤ c ∧ c ≤ 48 + n - 1 then c - 48 else -1
def relf (c : Int) : Int := if c = 60 then 0 else if c = 61 then 2 else if c = 62 then 1 else -1
def nst (c : Int) : Int := if c = 61 then 3 else 4
def rg (ch : Int → Int) (L : Int) : Int := if ¬ (0 ≤ ch 1 - 97 ∧ ch 1 - 97 ≤ 1) then 1 else if relf (ch 2) = -1 then 2 else if ch 2 ≠ 61 ∧ ch 3 ≠ 61 then 3 else if (rd ch 4 (nst (ch 2)) 0).1 ≤ nst (ch 2) ∨ (rd ch 4 (nst (ch 2)) 0).1 ≠ L then (rd ch 4 (nst (ch 2)) 0).1 else -1
theorem rd_L {μ : q_M} : ∀ (d : Nat) (i v : Int), (rd (chr μ) d i v).1 = i ∨ (rd (chr μ) d i v).1 ≤ q_g μ 0 4
  | 0, i, v => Or.inl rfl
  | d + 1, i, v => by
    unfold rd
    by_cases g : 48 ≤ chr μ i ∧ chr μ i ≤ 57
    · rw [if_pos g]
      have hl : i < q_g μ 0 4 := by
        unfold chr at g
        by_cases l : i < q_g μ 0 4
        · exact l
        · rw [if_neg l] at g; omega
      rcases rd_L (μ := μ) d (i + 1) (v * 10 + chr μ i - 48) with h | h
      · right; rw [h]; omega
      · exact Or.inr h
    · rw [if_neg g]; exact Or.inl rfl
theorem z_readNumber {N : Nat} {a : Int} {μM ν : q_M} (hN : 1000 ≤ N) (ht : tx μM ν) (ha : 0 ≤ a ∧ a ≤ 10) : ∃ ν', f_RT_readNumber N a ν = some (if (rd (chr μM) 4 a 0).1 ≤ a ∨ (rd (chr μM) 4 a 0).1 ≠ q_g μM 0 4 then (rd (chr μM) 4 a 0).1 else -1, ν') ∧ tx μM ν' ∧ (∀ k, k ≠ 47 → q_g ν' k = q_g ν k) ∧ (∀ j, j ≠ 5 → q_g ν' 47 j = q_g ν 47 j) ∧ q_g ν' 47 5 = (rd (chr μM) 4 a 0).2 := by
  unfold f_RT_readNumber
  rw [z_fs, Int.cast_ofNat_Int]
  obtain ⟨ν', c1, c2, c3, c4, c5⟩ := z_numC (α := Unit) (K := fun x4 μ5 => q_jn (fun (x21 : Int) => some (x21, μ5)) fun (j73 : Int → Option (Int × q_M)) => q_jn (j73 x4) fun (j72 : Option (Int × q_M)) => if x4 ≤ a then j72 else q_fl μ5 47 0 fun x22 => if x4 = x22 then j73 ((-1)) else j72) ha.1 ha.2 4 N a 0 (q_x ν 47 5 0) (tx_x ht (by omega)) ha.1 (by omega) (by omega) (by rw [g_s (by omega), u_s]) (by omega) (by decide)
  rw [c1]
  simp only [z_jn]
  refine ⟨ν', ?_, c2, fun k hk => by rw [c3 k hk, g_sn hk], fun j hj => by rw [c4 j hj, g_s (by omega), u_n hj], c5⟩
  by_cases g : (rd (chr μM) 4 a 0).1 ≤ a
  · rw [if_pos g, if_pos (Or.inl g)]
  · rw [if_neg g, z_fl, Int.cast_ofNat_Int, c2.1]
    by_cases g2 : (rd (chr μM) 4 a 0).1 = q_g μM 0 4
    · rw [if_pos g2, if_neg (fun h => h.elim g (fun q => q g2))]
    · rw [if_neg g2, if_pos (Or.inr g2)]
theorem z_subjectFor {c n : Int} {μ : q_M} (hc : -1 ≤ c ∧ c < 65536) (hn : 2 ≤ n ∧ n ≤ 5) : f_RT_subjectFor c n μ = some (sjf c n) := by
  unfold f_RT_subjectFor sjf
  by_cases g1 : c = 42
  · rw [if_pos g1, if_pos g1]
  · rw [if_neg g1, if_neg g1]
    by_cases g2 : c = 126
    · rw [if_pos g2, if_pos g2]
    · rw [if_neg g2, if_neg g2, z_ck (by omega) (by omega), z_ck (by omega) (by omega), z_within, z_b]
      simp only [z_jn]
      by_cases g3 : 48 ≤ c ∧ c ≤ 48 + n - 1
      · rw [if_pos g3, if_neg (by decide), z_ck (by omega) (by omega), if_pos g3]
      · rw [if_neg g3, if_pos rfl, if_neg g3]
theorem z_relationFor {c : Int} {μ : q_M} : f_RT_relationFor c μ = some (relf c) := by
  unfold f_RT_relationFor relf
  by_cases g1 : c = 60
  · rw [if_pos g1, if_pos g1]
  · rw [if_neg g1, if_neg g1]
    by_cases g2 : c = 61
    · rw [if_pos g2, if_pos g2]
    · rw [if_neg g2, if_neg g2]
      by_cases g3 : c = 62
      · rw [if_pos g3, if_pos g3]
      · rw [if_neg g3, if_neg g3]
theorem z_read {N : Nat} {n : Int} {μM ν : q_M} (hN : 1000 ≤ N) (ht : tx μM ν) (hn : 2 ≤ n ∧ n ≤ 5) : ∃ ν' x, f_RT_read N n ν = some (x, ν') ∧ tx μM ν' ∧ (∀ k, k ≠ 47 → q_g ν' k = q_g ν k) ∧ x = (if sjf (chr μM 0) n = -1 then 0 else rg (chr μM) (q_g μM 0 4)) ∧ (x = -1 → q_g ν' 47 2 = sjf (chr μM 0) n ∧ q_g ν' 47 3 = chr μM 1 - 97 ∧ q_g ν' 47 4 = relf (chr μM 2) ∧ q_g ν' 47 5 = (rd (chr μM) 4 (nst (chr μM 2)) 0).2) := by
  have b0 := chr_bd ht (show (0 : Int) ≤ 0 by omega)
  have b1 := chr_bd ht (show (0 : Int) ≤ 1 by omega)
  unfold f_RT_read
  rw [z_characterAt ht (by omega), z_b, z_subjectFor b0 hn, z_b, z_fs, z_fl]
  simp only [Int.cast_ofNat_Int]
  rw [g_s (by omega), u_s]
  have t1 : tx μM (q_x ν 47 2 (sjf (chr μM 0) n)) := tx_x ht (by omega)
  by_cases g0 : sjf (chr μM 0) n = -1
  · rw [if_pos g0]
    exact ⟨_, _, rfl, t1, fun k hk => g_sn hk, by rw [if_pos g0], fun h => absurd h (by decide)⟩
  · rw [if_neg g0, z_characterAt t1 (by omega), z_b, z_ck (by omega) (by omega), z_fs, z_fl]
    simp only [Int.cast_ofNat_Int]
    rw [g_s (by omega), u_s, z_isStock, z_b]
    have t2 : tx μM (q_x (q_x ν 47 2 (sjf (chr μM 0) n)) 47 3 (chr μM 1 - 97)) := tx_x t1 (by omega)
    unfold rg
    by_cases g1 : 0 ≤ chr μM 1 - 97 ∧ chr μM 1 - 97 ≤ 1
    · rw [if_pos g1, if_neg (by decide), z_characterAt t2 (by omega), z_b, z_relationFor, z_b, z_fs, z_fl]
      simp only [Int.cast_ofNat_Int]
      rw [g_s (by omega), u_s]
      have t3 : tx μM (q_x (q_x (q_x ν 47 2 (sjf (chr μM 0) n)) 47 3 (chr μM 1 - 97)) 47 4 (relf (chr μM 2))) := tx_x t2 (by omega)
      rw [if_neg (not_not_intro g1)]
      by_cases g2 : relf (chr μM 2) = -1
      · rw [if_pos g2]
        exact ⟨_, _, rfl, t3, fun k hk => by rw [g_sn hk, g_sn hk, g_sn hk], by rw [if_neg g0, if_pos g2], fun h => absurd h (by decide)⟩
      · rw [if_neg g2, z_fl, Int.cast_ofNat_Int, g_s (by omega), u_s]
        have fin : ∀ a, (a = 3 ∨ a = 4) → nst (chr μM 2) = a → ¬ (chr μM 2 ≠ 61 ∧ chr μM 3 ≠ 61) → ∃ ν' x, (q_b2 (f_RT_readNumber N a (q_x (q_x (q_x ν 47 2 (sjf (chr μM 0) n)) 47 3 (chr μM 1 - 97)) 47 4 (relf (chr μM 2)))) fun x30 μ31 => some (x30, μ31)) = some (x, ν') ∧ tx μM ν' ∧ (∀ k, k ≠ 47 → q_g ν' k = q_g ν k) ∧ x = (if sjf (chr μM 0) n = -1 then 0 else if relf (chr μM 2) = -1 then 2 else if chr μM 2 ≠ 61 ∧ chr μM 3 ≠ 61 then 3 else if (rd (chr μM) 4 (nst (chr μM 2)) 0).1 ≤ nst (chr μM 2) ∨ (rd (chr μM) 4 (nst (chr μM 2)) 0).1 ≠ q_g μM 0 4 then (rd (chr μM) 4 (nst (chr μM 2)) 0).1 else -1) ∧ (x = -1 → q_g ν' 47 2 = sjf (chr μM 0) n ∧ q_g ν' 47 3 = chr μM 1 - 97 ∧ q_g ν' 47 4 = relf (chr μM 2) ∧ q_g ν' 47 5 = (rd (chr μM) 4 (nst (chr μM 2)) 0).2) := by
          intro a ha hna hnn
          obtain ⟨ν', c1, c2, c3, c4, c5⟩ := z_readNumber (N := N) (a := a) hN t3 (by omega)
          rw [c1, z_b2]
          refine ⟨ν', _, rfl, c2, fun k hk => by rw [c3 k hk, g_sn hk, g_sn hk, g_sn hk], by rw [if_neg g0, if_neg g2, if_neg hnn, hna], fun _ => ⟨?_, ?_, ?_, ?_⟩⟩
          · rw [c4 2 (by omega), g_s (by omega), u_n (by omega), g_s (by omega), u_n (by omega), g_s (by omega), u_s]
          · rw [c4 3 (by omega), g_s (by omega), u_n (by omega), g_s (by omega), u_s]
          · rw [c4 4 (by omega), g_s (by omega), u_s]
          · rw [c5, hna]
        by_cases g3 : relf (chr μM 2) = 2
        · have h61 : chr μM 2 = 61 := by
            unfold relf at g3
            by_cases q1 : chr μM 2 = 60
            · rw [if_pos q1] at g3; omega
            · rw [if_neg q1] at g3
              by_cases q2 : chr μM 2 = 61
              · exact q2
              · rw [if_neg q2] at g3
                by_cases q3 : chr μM 2 = 62
                · rw [if_pos q3] at g3; omega
                · rw [if_neg q3] at g3; omega
          rw [if_pos g3]
          exact fin 3 (Or.inl rfl) (by unfold nst; rw [if_pos h61]) (fun h => h.1 h61)
        · have h61 : chr μM 2 ≠ 61 := fun q => g3 (by rw [q]; rfl)
          rw [if_neg g3, z_characterAt t3 (by omega), z_b]
          simp only [z_jn]
          by_cases g4 : chr μM 3 = 61
          · rw [if_pos g4]
            exact fin 4 (Or.inr rfl) (by unfold nst; rw [if_neg h61]) (fun h => h.2 g4)
          · rw [if_neg g4]
            exact ⟨_, _, rfl, t3, fun k hk => by rw [g_sn hk, g_sn hk, g_sn hk], by rw [if_neg g0, if_neg g2, if_pos ⟨h61, g4⟩], fun h => absurd h (by decide)⟩
    · rw [if_neg g1, if_pos rfl]
      exact ⟨_, _, rfl, t2, fun k hk => by rw [g_sn hk, g_sn hk], by rw [if_neg g0, if_pos g1], fun h => absurd h (by decide)⟩
/-- a rule written behind the others, in the model -/
def aW (μ ν : q_M) (K a b c d : Int) : Prop := (∀ k, k ≠ 0 → k ≠ 4 → k ≠ 5 → k ≠ 6 → k ≠ 7 → q_g ν k = q_g μ k) ∧ q_g ν 0 = q_u (q_g μ 0) 6 (K + 1) ∧ q_g ν 4 = q_u (q_g μ 4) K a ∧ q_g ν 5 = q_u (q_g μ 5) K b ∧ q_g ν 6 = q_u (q_g μ 6) K c ∧ q_g ν 7 = q_u (q_g μ 7) K d
theorem z_aK {x3 sj e m v K : Int} {μ ν0 : q_M} (ht : tx μ ν0) (hK : q_g μ 0 6 = K) (hK2 : 0 ≤ K ∧ K ≤ 12) (hs : (x3 = 0 ∧ ((chr μ 0 = 42 ∧ sj = 8) ∨ (chr μ 0 = 126 ∧ sj = 9))) ∨ (x3 = 1 ∧ sj = chr μ 0 - 48 ∧ 48 ≤ chr μ 0)) (hrel : relf (chr μ 2) ≠ -1) (hL : 3 ≤ q_g μ 0 4) (he : 0 ≤ e ∧ e ≤ 100) : (m = 0 ∨ e < q_g μ 0 4 → aK x3 μ e m v = some (-100 - e, μ)) ∧ (¬ (m = 0 ∨ e < q_g μ 0 4) → (K = 12 → aK x3 μ e m v = some (-100005, μ)) ∧ (K ≠ 12 → ∃ ν, aK x3 μ e m v = some (K, ν) ∧ aW μ ν K sj (chr μ 1 - 97) (relf (chr μ 2)) v)) := by
  have hL2 := ht.2.1
  have c0 : q_g μ 3 0 = chr μ 0 := (if_pos (show (0 : Int) < q_g μ 0 4 by omega)).symm
  have c1 : q_g μ 3 1 = chr μ 1 := (if_pos (show (1 : Int) < q_g μ 0 4 by omega)).symm
  have c2 : q_g μ 3 2 = chr μ 2 := (if_pos (show (2 : Int) < q_g μ 0 4 by omega)).symm
  have b0 := chr_bd ht (show (0 : Int) ≤ 0 by omega)
  have b1 := chr_bd ht (show (0 : Int) ≤ 1 by omega)
  unfold aK
  simp only [z_jn]
  by_cases gm : m = 0
  · rw [if_pos gm, z_ck (by omega) (by omega)]
    exact ⟨fun _ => rfl, fun h => absurd (Or.inl gm) h⟩
  · rw [if_neg gm, z_fl, Int.cast_ofNat_Int]
    by_cases ge : e < q_g μ 0 4
    · rw [if_neg (by omega), z_ck (by omega) (by omega)]
      exact ⟨fun _ => rfl, fun h => absurd (Or.inr ge) h⟩
    · refine ⟨fun h => absurd h (fun h => h.elim gm ge), fun _ => ⟨fun h12 => ?_, fun h12 => ?_⟩⟩
      · rw [if_pos (by omega), z_fl, Int.cast_ofNat_Int, hK, if_pos h12]
      · rw [if_pos (by omega), z_fl, Int.cast_ofNat_Int, hK, if_neg h12, z_fl, Int.cast_ofNat_Int, hK, z_ld (by omega) (by omega), c0]
        have cont : ∃ ν, (q_st μ 4 12 K sj fun μ35 => q_fl μ35 0 6 fun x36 => q_ld μ35 3 20 1 fun x37 => q_ck (x37 - 97) fun x38 => q_st μ35 5 12 x36 x38 fun μ39 => q_fl μ39 0 6 fun x40 => q_ld μ39 3 20 2 fun x41 => if x41 = 60 then (q_st μ39 6 12 x40 0 fun μ43 => q_fl μ43 0 6 fun x44 => q_st μ43 7 12 x44 v fun μ45 => q_fl μ45 0 6 fun x46 => q_ck (x46 + 1) fun x47 => q_fs μ45 0 6 x47 fun μ48 => q_fl μ48 0 6 fun x49 => q_ck (x49 - 1) fun x50 => some (x50, μ48)) else q_ld μ39 3 20 2 fun x51 => if x51 = 62 then (q_st μ39 6 12 x40 1 fun μ43 => q_fl μ43 0 6 fun x44 => q_st μ43 7 12 x44 v fun μ45 => q_fl μ45 0 6 fun x46 => q_ck (x46 + 1) fun x47 => q_fs μ45 0 6 x47 fun μ48 => q_fl μ48 0 6 fun x49 => q_ck (x49 - 1) fun x50 => some (x50, μ48)) else (q_st μ39 6 12 x40 2 fun μ43 => q_fl μ43 0 6 fun x44 => q_st μ43 7 12 x44 v fun μ45 => q_fl μ45 0 6 fun x46 => q_ck (x46 + 1) fun x47 => q_fs μ45 0 6 x47 fun μ48 => q_fl μ48 0 6 fun x49 => q_ck (x49 - 1) fun x50 => some (x50, μ48))) = some (K, ν) ∧ aW μ ν K sj (chr μ 1 - 97) (relf (chr μ 2)) v := by
          rw [z_st (by omega) (by omega), z_fl, Int.cast_ofNat_Int, g_sn (by omega), hK, z_ld (by omega) (by omega), g_sn (by omega), c1, z_ck (by omega) (by omega), z_st (by omega) (by omega), z_fl, Int.cast_ofNat_Int, g_sn (by omega), g_sn (by omega), hK, z_ld (by omega) (by omega), g_sn (by omega), g_sn (by omega), c2]
          have wr : ∀ r, r = relf (chr μ 2) → ∃ ν, (q_st (q_x (q_x μ 4 K sj) 5 K (chr μ 1 - 97)) 6 12 K r fun μ43 => q_fl μ43 0 6 fun x44 => q_st μ43 7 12 x44 v fun μ45 => q_fl μ45 0 6 fun x46 => q_ck (x46 + 1) fun x47 => q_fs μ45 0 6 x47 fun μ48 => q_fl μ48 0 6 fun x49 => q_ck (x49 - 1) fun x50 => some (x50, μ48)) = some (K, ν) ∧ aW μ ν K sj (chr μ 1 - 97) (relf (chr μ 2)) v := by
            intro r hr
            rw [z_st (by omega) (by omega), z_fl, Int.cast_ofNat_Int, g_sn (by omega), g_sn (by omega), g_sn (by omega), hK, z_st (by omega) (by omega), z_fl, Int.cast_ofNat_Int, g_sn (by omega), g_sn (by omega), g_sn (by omega), g_sn (by omega), hK, z_ck (by omega) (by omega), z_fs, z_fl]
            simp only [Int.cast_ofNat_Int]
            rw [g_s (by omega), u_s, z_ck (by omega) (by omega), Int.add_sub_cancel]
            refine ⟨_, rfl, fun k k0 k4 k5 k6 k7 => by rw [g_sn k0, g_sn k7, g_sn k6, g_sn k5, g_sn k4], ?_, ?_, ?_, ?_, ?_⟩
            · rw [g_s (by omega), g_sn (by omega), g_sn (by omega), g_sn (by omega), g_sn (by omega)]
            · rw [g_sn (by omega), g_sn (by omega), g_sn (by omega), g_sn (by omega), g_s (by omega)]
            · rw [g_sn (by omega), g_sn (by omega), g_sn (by omega), g_s (by omega), g_sn (by omega)]
            · rw [g_sn (by omega), g_sn (by omega), g_s (by omega), g_sn (by omega), g_sn (by omega), hr]
            · rw [g_sn (by omega), g_s (by omega), g_sn (by omega), g_sn (by omega), g_sn (by omega)]
          by_cases q1 : chr μ 2 = 60
          · rw [if_pos q1]
            exact wr 0 (by rw [q1]; rfl)
          · rw [if_neg q1, z_ld (by omega) (by omega), g_sn (by omega), g_sn (by omega), c2]
            by_cases q2 : chr μ 2 = 62
            · rw [if_pos q2]
              exact wr 1 (by rw [q2]; rfl)
            · rw [if_neg q2]
              exact wr 2 (by
                unfold relf at hrel ⊢
                rw [if_neg q1] at hrel ⊢
                by_cases q3 : chr μ 2 = 61
                · rw [if_pos q3]
                · rw [if_neg q3, if_neg q2] at hrel; exact absurd rfl hrel)
        rcases hs with ⟨h0, hs | hs⟩ | ⟨h1, hs⟩
        · rw [if_pos h0, if_pos hs.1, ← hs.2]
          exact cont
        · rw [if_pos h0, if_neg (by omega), ← hs.2]
          exact cont
        · rw [if_neg (by omega), z_ld (by omega) (by omega), c0, z_ck (by omega) (by omega), ← hs.1]
          exact cont
theorem iteJ {β : Type} {P : Prop} [Decidable P] {A J : β} (h : P → A = J) : (if P then A else J) = J := by
  by_cases g : P
  · rw [if_pos g, h g]
  · rw [if_neg g]
theorem z_aR {N : Nat} {x3 sj K : Int} {μ ν0 : q_M} (hN : 1000 ≤ N) (ht : tx μ ν0) (hK : q_g μ 0 6 = K) (hK2 : 0 ≤ K ∧ K ≤ 12) (hs : (x3 = 0 ∧ ((chr μ 0 = 42 ∧ sj = 8) ∨ (chr μ 0 = 126 ∧ sj = 9))) ∨ (x3 = 1 ∧ sj = chr μ 0 - 48 ∧ 48 ≤ chr μ 0)) : (rg (chr μ) (q_g μ 0 4) ≠ -1 → aR N x3 μ = some (-100 - rg (chr μ) (q_g μ 0 4), μ)) ∧ (rg (chr μ) (q_g μ 0 4) = -1 → (K = 12 → aR N x3 μ = some (-100005, μ)) ∧ (K ≠ 12 → ∃ ν, aR N x3 μ = some (K, ν) ∧ aW μ ν K sj (chr μ 1 - 97) (relf (chr μ 2)) (rd (chr μ) 4 (nst (chr μ 2)) 0).2)) := by
  have hL2 := ht.2.1
  unfold aR rg
  simp only [z_jn]
  rw [z_isAt ht (by omega) (by omega), z_b]
  simp only [z_bib, decide_eq_false_iff_not]
  by_cases g1 : 0 ≤ chr μ 1 - 97 ∧ chr μ 1 - 97 ≤ 1
  · have hL3 := ht.2.1
    rw [if_neg (not_not_intro g1), iteJ (P := ¬ chr μ 1 = 97) (fun h97 => by
      rw [z_isAt ht (by omega) (by omega), z_b, if_neg (show ¬ bi (decide (chr μ 1 = 98)) = 0 by rw [decide_eq_true (show chr μ 1 = 98 by omega)]; decide)])]
    have key : ∀ a, ((a = 2 ∧ chr μ 2 ≠ 60 ∧ chr μ 2 ≠ 62) ∨ (a = 3 ∧ (chr μ 2 = 60 ∨ chr μ 2 = 62))) → ((if relf (chr μ 2) = -1 then 2 else if chr μ 2 ≠ 61 ∧ chr μ 3 ≠ 61 then 3 else if (rd (chr μ) 4 (nst (chr μ 2)) 0).1 ≤ nst (chr μ 2) ∨ (rd (chr μ) 4 (nst (chr μ 2)) 0).1 ≠ q_g μ 0 4 then (rd (chr μ) 4 (nst (chr μ 2)) 0).1 else -1) ≠ -1 → (q_b (f_M_isAt a 61 μ) fun x12 => if x12 = 0 then q_ck (-100 - a) fun x62 => some (x62, μ) else q_ck (a + 1) fun x13 => f_M_addRule_L144 μ (aK x3 μ) N x13 0 0) = some (-100 - (if relf (chr μ 2) = -1 then 2 else if chr μ 2 ≠ 61 ∧ chr μ 3 ≠ 61 then 3 else if (rd (chr μ) 4 (nst (chr μ 2)) 0).1 ≤ nst (chr μ 2) ∨ (rd (chr μ) 4 (nst (chr μ 2)) 0).1 ≠ q_g μ 0 4 then (rd (chr μ) 4 (nst (chr μ 2)) 0).1 else -1), μ)) ∧ ((if relf (chr μ 2) = -1 then 2 else if chr μ 2 ≠ 61 ∧ chr μ 3 ≠ 61 then 3 else if (rd (chr μ) 4 (nst (chr μ 2)) 0).1 ≤ nst (chr μ 2) ∨ (rd (chr μ) 4 (nst (chr μ 2)) 0).1 ≠ q_g μ 0 4 then (rd (chr μ) 4 (nst (chr μ 2)) 0).1 else -1) = -1 → (K = 12 → (q_b (f_M_isAt a 61 μ) fun x12 => if x12 = 0 then q_ck (-100 - a) fun x62 => some (x62, μ) else q_ck (a + 1) fun x13 => f_M_addRule_L144 μ (aK x3 μ) N x13 0 0) = some (-100005, μ)) ∧ (K ≠ 12 → ∃ ν, (q_b (f_M_isAt a 61 μ) fun x12 => if x12 = 0 then q_ck (-100 - a) fun x62 => some (x62, μ) else q_ck (a + 1) fun x13 => f_M_addRule_L144 μ (aK x3 μ) N x13 0 0) = some (K, ν) ∧ aW μ ν K sj (chr μ 1 - 97) (relf (chr μ 2)) (rd (chr μ) 4 (nst (chr μ 2)) 0).2)) := by
      intro a ha
      have ha2 : 2 ≤ a ∧ a ≤ 3 := by omega
      rw [z_isAt ht (by omega) (by omega), z_b]
      simp only [z_bib, decide_eq_false_iff_not]
      by_cases g2 : chr μ a = 61
      · have haL : a < q_g μ 0 4 := by
          unfold chr at g2
          by_cases l : a < q_g μ 0 4
          · exact l
          · rw [if_neg l] at g2; omega
        have hrel : relf (chr μ 2) ≠ -1 ∧ nst (chr μ 2) = a + 1 ∧ ¬ (chr μ 2 ≠ 61 ∧ chr μ 3 ≠ 61) := by
          rcases ha with ⟨rfl, h1, h2⟩ | ⟨rfl, h | h⟩
          · rw [g2]
            exact ⟨by decide, rfl, fun h => h.1 rfl⟩
          · rw [h]
            exact ⟨by decide, rfl, fun q => q.2 g2⟩
          · rw [h]
            exact ⟨by decide, rfl, fun q => q.2 g2⟩
        obtain ⟨r1, r2, r3⟩ := hrel
        rw [if_neg (not_not_intro g2), z_ck (by omega) (by omega), z_numM ht 4 N (a + 1) 0 0 (by omega) (by omega) (by omega) (by omega) (by omega) (by omega) (by decide), if_neg r1, if_neg r3, r2]
        have hin := rd_in (ch := chr μ) 4 (a + 1) 0 (by omega) (by decide)
        have hL := rd_L (μ := μ) 4 (a + 1) 0
        obtain ⟨k1, k2⟩ := z_aK (x3 := x3) (sj := sj) (e := (rd (chr μ) 4 (a + 1) 0).1) (m := 0 + ((rd (chr μ) 4 (a + 1) 0).1 - (a + 1))) (v := (rd (chr μ) 4 (a + 1) 0).2) ht hK hK2 hs r1 (by omega) (by omega)
        by_cases g3 : (rd (chr μ) 4 (a + 1) 0).1 ≤ a + 1 ∨ (rd (chr μ) 4 (a + 1) 0).1 ≠ q_g μ 0 4
        · rw [if_pos g3]
          exact ⟨fun _ => k1 (by omega), fun h => absurd h (by omega)⟩
        · rw [if_neg g3]
          exact ⟨fun h => absurd rfl h, fun _ => k2 (by omega)⟩
      · rw [if_pos g2, z_ck (by omega) (by omega)]
        rcases ha with ⟨rfl, h1, h2⟩ | ⟨rfl, h⟩
        · have : relf (chr μ 2) = -1 := by
            unfold relf
            rw [if_neg h1, if_neg g2, if_neg h2]
          rw [if_pos this]
          exact ⟨fun _ => rfl, fun h => absurd h (by decide)⟩
        · have h1 : relf (chr μ 2) ≠ -1 := by rcases h with h | h <;> rw [h] <;> decide
          have h2 : chr μ 2 ≠ 61 := by omega
          rw [if_neg h1, if_pos ⟨h2, g2⟩]
          exact ⟨fun _ => rfl, fun h => absurd h (by decide)⟩
    rw [z_isAt ht (by omega) (by omega), z_b]
    simp only [z_bib, decide_eq_false_iff_not]
    by_cases q1 : chr μ 2 = 60
    · rw [if_neg (not_not_intro q1), if_neg (show ¬ (1 : Int) = 0 by decide), z_ck (by omega) (by omega)]
      exact key 3 (Or.inr ⟨rfl, Or.inl q1⟩)
    · rw [if_pos q1, z_isAt ht (by omega) (by omega), z_b]
      simp only [z_bib, decide_eq_false_iff_not]
      by_cases q2 : chr μ 2 = 62
      · rw [if_neg (not_not_intro q2), if_neg (show ¬ (1 : Int) = 0 by decide), z_ck (by omega) (by omega)]
        exact key 3 (Or.inr ⟨rfl, Or.inr q2⟩)
      · rw [if_pos q2, if_pos trivial, z_ck (by omega) (by omega)]
        exact key 2 (Or.inl ⟨rfl, q1, q2⟩)
  · have h97 : ¬ chr μ 1 = 97 := by omega
    have h98 : ¬ chr μ 1 = 98 := by omega
    rw [if_pos h97, z_isAt ht (by omega) (by omega), z_b]
    simp only [z_bib, decide_eq_false_iff_not]
    rw [if_pos h98, if_pos g1]
    exact ⟨fun _ => rfl, fun h => absurd h (by decide)⟩
