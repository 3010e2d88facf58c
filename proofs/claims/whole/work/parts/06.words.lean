def shC : List Shp := [.inr (4, [some 1, some 11, some 21, none, some 31, some 34, some 36, some 45]), .inr (0, [none, some (2), some (3), some (4), some (5), some (6), some (7), none, some (8), some (9), none, none, none, none, none, some (10)]), .inl (0, 8, 0), .inl (0, 8, 0), .inl (0, 8, 0), .inl (0, 8, 0), .inl (0, 8, 0), .inl (0, 8, 0), .inl (0, 8, 0), .inl (0, 8, 0), .inl (0, 10, 0), .inr (0, [none, some (12), some (13), some (14), some (15), some (16), some (17), none, some (18), some (19), none, none, none, none, none, some (20)]), .inl (0, 8, 0), .inl (0, 8, 0), .inl (0, 8, 0), .inl (0, 8, 0), .inl (0, 8, 0), .inl (0, 8, 0), .inl (0, 8, 0), .inl (0, 8, 0), .inl (0, 10, 0), .inr (0, [none, some (22), some (23), some (24), some (25), some (26), some (27), none, some (28), some (29), none, none, none, none, none, some (30)]), .inl (0, 8, 0), .inl (0, 8, 0), .inl (0, 8, 0), .inl (0, 8, 0), .inl (0, 8, 0), .inl (0, 8, 0), .inl (0, 8, 0), .inl (0, 8, 0), .inl (0, 10, 0), .inr (3, [some 32, some 33, none]), .inl (0, 8, 0), .inl (0, 8, 0), .inr (2, [some 35, none, none, none, none, none, none]), .inl (1, 120, 0), .inl (2, 4, 37), .inr (1, [some 38, none, none]), .inl (0, 40, 0), .inr (1, [some 40, none, none]), .inl (0, 40, 0), .inr (1, [some 42, none, none]), .inl (0, 40, 0), .inr (1, [some 44, none, none]), .inl (0, 40, 0), .inl (0, 7, 0)]
def shR : List Shp := [.inr (5, [some 1, some 2, some 3, none, some 4, some 5, none, some 6, none, some 7, none, none, none, none, some 8, some 9, some 10, some 11]), .inl (0, 73, 0), .inl (0, 73, 0), .inl (0, 73, 0), .inl (0, 7, 0), .inl (0, 8, 0), .inl (0, 8, 0), .inl (0, 120, 0), .inl (0, 4, 0), .inl (0, 4, 0), .inl (0, 160, 0), .inl (0, 40, 0)]
theorem sc_0 : shC[0]? = some (.inr (4, [some 1, some 11, some 21, none, some 31, some 34, some 36, some 45])) := rfl
theorem sc_1 : shC[1]? = some (.inr (0, [none, some (2), some (3), some (4), some (5), some (6), some (7), none, some (8), some (9), none, none, none, none, none, some (10)])) := rfl
theorem sc_2 : shC[2]? = some (.inl (0, 8, 0)) := rfl
theorem sc_3 : shC[3]? = some (.inl (0, 8, 0)) := rfl
theorem sc_4 : shC[4]? = some (.inl (0, 8, 0)) := rfl
theorem sc_5 : shC[5]? = some (.inl (0, 8, 0)) := rfl
theorem sc_6 : shC[6]? = some (.inl (0, 8, 0)) := rfl
theorem sc_7 : shC[7]? = some (.inl (0, 8, 0)) := rfl
theorem sc_8 : shC[8]? = some (.inl (0, 8, 0)) := rfl
theorem sc_9 : shC[9]? = some (.inl (0, 8, 0)) := rfl
theorem sc_10 : shC[10]? = some (.inl (0, 10, 0)) := rfl
theorem sc_11 : shC[11]? = some (.inr (0, [none, some (12), some (13), some (14), some (15), some (16), some (17), none, some (18), some (19), none, none, none, none, none, some (20)])) := rfl
theorem sc_12 : shC[12]? = some (.inl (0, 8, 0)) := rfl
theorem sc_13 : shC[13]? = some (.inl (0, 8, 0)) := rfl
theorem sc_14 : shC[14]? = some (.inl (0, 8, 0)) := rfl
theorem sc_15 : shC[15]? = some (.inl (0, 8, 0)) := rfl
theorem sc_16 : shC[16]? = some (.inl (0, 8, 0)) := rfl
theorem sc_17 : shC[17]? = some (.inl (0, 8, 0)) := rfl
theorem sc_18 : shC[18]? = some (.inl (0, 8, 0)) := rfl
theorem sc_19 : shC[19]? = some (.inl (0, 8, 0)) := rfl
theorem sc_20 : shC[20]? = some (.inl (0, 10, 0)) := rfl
theorem sc_21 : shC[21]? = some (.inr (0, [none, some (22), some (23), some (24), some (25), some (26), some (27), none, some (28), some (29), none, none, none, none, none, some (30)])) := rfl
theorem sc_22 : shC[22]? = some (.inl (0, 8, 0)) := rfl
theorem sc_23 : shC[23]? = some (.inl (0, 8, 0)) := rfl
theorem sc_24 : shC[24]? = some (.inl (0, 8, 0)) := rfl
theorem sc_25 : shC[25]? = some (.inl (0, 8, 0)) := rfl
theorem sc_26 : shC[26]? = some (.inl (0, 8, 0)) := rfl
theorem sc_27 : shC[27]? = some (.inl (0, 8, 0)) := rfl
theorem sc_28 : shC[28]? = some (.inl (0, 8, 0)) := rfl
theorem sc_29 : shC[29]? = some (.inl (0, 8, 0)) := rfl
theorem sc_30 : shC[30]? = some (.inl (0, 10, 0)) := rfl
theorem sc_31 : shC[31]? = some (.inr (3, [some 32, some 33, none])) := rfl
theorem sc_32 : shC[32]? = some (.inl (0, 8, 0)) := rfl
theorem sc_33 : shC[33]? = some (.inl (0, 8, 0)) := rfl
theorem sc_34 : shC[34]? = some (.inr (2, [some 35, none, none, none, none, none, none])) := rfl
theorem sc_35 : shC[35]? = some (.inl (1, 120, 0)) := rfl
theorem sc_36 : shC[36]? = some (.inl (2, 4, 37)) := rfl
theorem sc_37 : shC[37]? = some (.inr (1, [some 38, none, none])) := rfl
theorem sc_38 : shC[38]? = some (.inl (0, 40, 0)) := rfl
theorem sc_39 : shC[39]? = some (.inr (1, [some 40, none, none])) := rfl
theorem sc_40 : shC[40]? = some (.inl (0, 40, 0)) := rfl
theorem sc_41 : shC[41]? = some (.inr (1, [some 42, none, none])) := rfl
theorem sc_42 : shC[42]? = some (.inl (0, 40, 0)) := rfl
theorem sc_43 : shC[43]? = some (.inr (1, [some 44, none, none])) := rfl
theorem sc_44 : shC[44]? = some (.inl (0, 40, 0)) := rfl
theorem sc_45 : shC[45]? = some (.inl (0, 7, 0)) := rfl
theorem sr_0 : shR[0]? = some (.inr (5, [some 1, some 2, some 3, none, some 4, some 5, none, some 6, none, some 7, none, none, none, none, some 8, some 9, some 10, some 11])) := rfl
theorem sr_1 : shR[1]? = some (.inl (0, 73, 0)) := rfl
theorem sr_2 : shR[2]? = some (.inl (0, 73, 0)) := rfl
theorem sr_3 : shR[3]? = some (.inl (0, 73, 0)) := rfl
theorem sr_4 : shR[4]? = some (.inl (0, 7, 0)) := rfl
theorem sr_5 : shR[5]? = some (.inl (0, 8, 0)) := rfl
theorem sr_6 : shR[6]? = some (.inl (0, 8, 0)) := rfl
theorem sr_7 : shR[7]? = some (.inl (0, 120, 0)) := rfl
theorem sr_8 : shR[8]? = some (.inl (0, 4, 0)) := rfl
theorem sr_9 : shR[9]? = some (.inl (0, 4, 0)) := rfl
theorem sr_10 : shR[10]? = some (.inl (0, 160, 0)) := rfl
theorem sr_11 : shR[11]? = some (.inl (0, 40, 0)) := rfl
def isRm (r : Nat) : Prop := r = 1 ∨ r = 11 ∨ r = 21
theorem isRm_1 : isRm 1 := Or.inl rfl
theorem isRm_11 : isRm 11 := Or.inr (Or.inl rfl)
theorem isRm_21 : isRm 21 := Or.inr (Or.inr rfl)
def isSe (k : Nat) : Prop := k = 37 ∨ k = 39 ∨ k = 41 ∨ k = 43
theorem isSe_of {s : Int32} (h : inB s 4 = true) : isSe (37 + 2 * s.toNatClampNeg) := by
  simp only [inB, Bool.and_eq_true, decide_eq_true_eq] at h
  rcases (show s.toNatClampNeg = 0 ∨ s.toNatClampNeg = 1 ∨ s.toNatClampNeg = 2 ∨ s.toNatClampNeg = 3 by omega) with e | e | e | e <;> rw [e]
  · exact Or.inl rfl
  · exact Or.inr (Or.inl rfl)
  · exact Or.inr (Or.inr (Or.inl rfl))
  · exact Or.inr (Or.inr (Or.inr rfl))
theorem s_rm {r : Nat} (h : isRm r) : shC[r]? = some (.inr (0, [none, some (r + 1), some (r + 2), some (r + 3), some (r + 4), some (r + 5), some (r + 6), none, some (r + 7), some (r + 8), none, none, none, none, none, some (r + 9)])) := by rcases h with rfl | rfl | rfl <;> rfl
theorem s_ra1 {r : Nat} (h : isRm r) : shC[r + 1]? = some (.inl (0, 8, 0)) := by rcases h with rfl | rfl | rfl <;> rfl
theorem s_ra2 {r : Nat} (h : isRm r) : shC[r + 2]? = some (.inl (0, 8, 0)) := by rcases h with rfl | rfl | rfl <;> rfl
theorem s_ra3 {r : Nat} (h : isRm r) : shC[r + 3]? = some (.inl (0, 8, 0)) := by rcases h with rfl | rfl | rfl <;> rfl
theorem s_ra4 {r : Nat} (h : isRm r) : shC[r + 4]? = some (.inl (0, 8, 0)) := by rcases h with rfl | rfl | rfl <;> rfl
theorem s_ra5 {r : Nat} (h : isRm r) : shC[r + 5]? = some (.inl (0, 8, 0)) := by rcases h with rfl | rfl | rfl <;> rfl
theorem s_ra6 {r : Nat} (h : isRm r) : shC[r + 6]? = some (.inl (0, 8, 0)) := by rcases h with rfl | rfl | rfl <;> rfl
theorem s_ra7 {r : Nat} (h : isRm r) : shC[r + 7]? = some (.inl (0, 8, 0)) := by rcases h with rfl | rfl | rfl <;> rfl
theorem s_ra8 {r : Nat} (h : isRm r) : shC[r + 8]? = some (.inl (0, 8, 0)) := by rcases h with rfl | rfl | rfl <;> rfl
theorem s_ra9 {r : Nat} (h : isRm r) : shC[r + 9]? = some (.inl (0, 10, 0)) := by rcases h with rfl | rfl | rfl <;> rfl
theorem s_se {k : Nat} (h : isSe k) : shC[k]? = some (.inr (1, [some (k + 1), none, none])) := by rcases h with rfl | rfl | rfl | rfl <;> rfl
theorem s_sn {k : Nat} (h : isSe k) : shC[k + 1]? = some (.inl (0, 40, 0)) := by rcases h with rfl | rfl | rfl | rfl <;> rfl
theorem wl1_0 : u_lay RX1 TX1 0 ∈ TB := tb_t 77 (by decide +kernel) (by decide +kernel)
theorem wl1_1 : u_lay RX1 TX1 1 ∈ TB := tb_t 79 (by decide +kernel) (by decide +kernel)
theorem wl1_2 : u_lay RX1 TX1 2 ∈ TB := tb_t 81 (by decide +kernel) (by decide +kernel)
theorem wl1_3 : u_lay RX1 TX1 3 ∈ TB := tb_t 83 (by decide +kernel) (by decide +kernel)
theorem wl1_4 : u_lay RX1 TX1 4 ∈ TB := tb_t 85 (by decide +kernel) (by decide +kernel)
theorem wl1_5 : u_lay RX1 TX1 5 ∈ TB := tb_t 87 (by decide +kernel) (by decide +kernel)
theorem wl1_6 : u_lay RX1 TX1 6 ∈ TB := tb_t 89 (by decide +kernel) (by decide +kernel)
theorem wl1_7 : u_lay RX1 TX1 7 ∈ TB := tb_t 91 (by decide +kernel) (by decide +kernel)
theorem wl1_8 : u_lay RX1 TX1 8 ∈ TB := tb_t 93 (by decide +kernel) (by decide +kernel)
theorem wl1_9 : u_lay RX1 TX1 9 ∈ TB := tb_t 95 (by decide +kernel) (by decide +kernel)
theorem wl1_10 : u_lay RX1 TX1 10 ∈ TB := tb_t 97 (by decide +kernel) (by decide +kernel)
theorem wl1_11 : u_lay RX1 TX1 11 ∈ TB := tb_t 99 (by decide +kernel) (by decide +kernel)
theorem wl1_12 : u_lay RX1 TX1 12 ∈ TB := tb_t 101 (by decide +kernel) (by decide +kernel)
theorem wl1_13 : u_lay RX1 TX1 13 ∈ TB := tb_t 103 (by decide +kernel) (by decide +kernel)
theorem wl1_14 : u_lay RX1 TX1 14 ∈ TB := tb_t 105 (by decide +kernel) (by decide +kernel)
theorem wl1_15 : u_lay RX1 TX1 15 ∈ TB := tb_t 107 (by decide +kernel) (by decide +kernel)
theorem wlX1 : ∀ x ∈ u_ws RX1 TX1 16, x ∈ TB := by
  intro x hx
  obtain ⟨k, hk, rfl⟩ := List.mem_map.mp hx
  have hk := List.mem_range.mp hk
  match k, hk with
  | 0, _ => exact wl1_0
  | 1, _ => exact wl1_1
  | 2, _ => exact wl1_2
  | 3, _ => exact wl1_3
  | 4, _ => exact wl1_4
  | 5, _ => exact wl1_5
  | 6, _ => exact wl1_6
  | 7, _ => exact wl1_7
  | 8, _ => exact wl1_8
  | 9, _ => exact wl1_9
  | 10, _ => exact wl1_10
  | 11, _ => exact wl1_11
  | 12, _ => exact wl1_12
  | 13, _ => exact wl1_13
  | 14, _ => exact wl1_14
  | 15, _ => exact wl1_15
  | k + 16, hk => exact absurd hk (by omega)
theorem clX1 : ClOk 0 RX1 TX1 16 tyX1 := ⟨rfl, wlX1, tyX1_ok, nmX1⟩
theorem wl2_0 : u_lay RX2 TX2 0 ∈ TB := tb_t 173 (by decide +kernel) (by decide +kernel)
theorem wl2_1 : u_lay RX2 TX2 1 ∈ TB := tb_t 175 (by decide +kernel) (by decide +kernel)
theorem wl2_2 : u_lay RX2 TX2 2 ∈ TB := tb_t 177 (by decide +kernel) (by decide +kernel)
theorem wlX2 : ∀ x ∈ u_ws RX2 TX2 3, x ∈ TB := by
  intro x hx
  obtain ⟨k, hk, rfl⟩ := List.mem_map.mp hx
  have hk := List.mem_range.mp hk
  match k, hk with
  | 0, _ => exact wl2_0
  | 1, _ => exact wl2_1
  | 2, _ => exact wl2_2
  | k + 3, hk => exact absurd hk (by omega)
theorem clX2 : ClOk 1 RX2 TX2 3 tyX2 := ⟨rfl, wlX2, tyX2_ok, nmX2⟩
theorem wl3_0 : u_lay RX3 TX3 0 ∈ TB := tb_t 144 (by decide +kernel) (by decide +kernel)
theorem wl3_1 : u_lay RX3 TX3 1 ∈ TB := tb_t 146 (by decide +kernel) (by decide +kernel)
theorem wl3_2 : u_lay RX3 TX3 2 ∈ TB := tb_t 148 (by decide +kernel) (by decide +kernel)
theorem wl3_3 : u_lay RX3 TX3 3 ∈ TB := tb_t 150 (by decide +kernel) (by decide +kernel)
theorem wl3_4 : u_lay RX3 TX3 4 ∈ TB := tb_t 152 (by decide +kernel) (by decide +kernel)
theorem wl3_5 : u_lay RX3 TX3 5 ∈ TB := tb_t 154 (by decide +kernel) (by decide +kernel)
theorem wl3_6 : u_lay RX3 TX3 6 ∈ TB := tb_t 156 (by decide +kernel) (by decide +kernel)
theorem wlX3 : ∀ x ∈ u_ws RX3 TX3 7, x ∈ TB := by
  intro x hx
  obtain ⟨k, hk, rfl⟩ := List.mem_map.mp hx
  have hk := List.mem_range.mp hk
  match k, hk with
  | 0, _ => exact wl3_0
  | 1, _ => exact wl3_1
  | 2, _ => exact wl3_2
  | 3, _ => exact wl3_3
  | 4, _ => exact wl3_4
  | 5, _ => exact wl3_5
  | 6, _ => exact wl3_6
  | k + 7, hk => exact absurd hk (by omega)
theorem clX3 : ClOk 2 RX3 TX3 7 tyX3 := ⟨rfl, wlX3, tyX3_ok, nmX3⟩
theorem wl4_0 : u_lay RX4 TX4 0 ∈ TB := tb_t 123 (by decide +kernel) (by decide +kernel)
theorem wl4_1 : u_lay RX4 TX4 1 ∈ TB := tb_t 125 (by decide +kernel) (by decide +kernel)
theorem wl4_2 : u_lay RX4 TX4 2 ∈ TB := tb_t 127 (by decide +kernel) (by decide +kernel)
theorem wlX4 : ∀ x ∈ u_ws RX4 TX4 3, x ∈ TB := by
  intro x hx
  obtain ⟨k, hk, rfl⟩ := List.mem_map.mp hx
  have hk := List.mem_range.mp hk
  match k, hk with
  | 0, _ => exact wl4_0
  | 1, _ => exact wl4_1
  | 2, _ => exact wl4_2
  | k + 3, hk => exact absurd hk (by omega)
theorem clX4 : ClOk 3 RX4 TX4 3 tyX4 := ⟨rfl, wlX4, tyX4_ok, nmX4⟩
theorem wl5_0 : u_lay RX5 TX5 0 ∈ TB := tb_t 188 (by decide +kernel) (by decide +kernel)
theorem wl5_1 : u_lay RX5 TX5 1 ∈ TB := tb_t 190 (by decide +kernel) (by decide +kernel)
theorem wl5_2 : u_lay RX5 TX5 2 ∈ TB := tb_t 192 (by decide +kernel) (by decide +kernel)
theorem wl5_3 : u_lay RX5 TX5 3 ∈ TB := tb_t 194 (by decide +kernel) (by decide +kernel)
theorem wl5_4 : u_lay RX5 TX5 4 ∈ TB := tb_t 196 (by decide +kernel) (by decide +kernel)
theorem wl5_5 : u_lay RX5 TX5 5 ∈ TB := tb_t 198 (by decide +kernel) (by decide +kernel)
theorem wl5_6 : u_lay RX5 TX5 6 ∈ TB := tb_t 200 (by decide +kernel) (by decide +kernel)
theorem wl5_7 : u_lay RX5 TX5 7 ∈ TB := tb_t 202 (by decide +kernel) (by decide +kernel)
theorem wlX5 : ∀ x ∈ u_ws RX5 TX5 8, x ∈ TB := by
  intro x hx
  obtain ⟨k, hk, rfl⟩ := List.mem_map.mp hx
  have hk := List.mem_range.mp hk
  match k, hk with
  | 0, _ => exact wl5_0
  | 1, _ => exact wl5_1
  | 2, _ => exact wl5_2
  | 3, _ => exact wl5_3
  | 4, _ => exact wl5_4
  | 5, _ => exact wl5_5
  | 6, _ => exact wl5_6
  | 7, _ => exact wl5_7
  | k + 8, hk => exact absurd hk (by omega)
theorem clX5 : ClOk 4 RX5 TX5 8 tyX5 := ⟨rfl, wlX5, tyX5_ok, nmX5⟩
theorem wl6_0 : u_lay RX6 TX6 0 ∈ TB := tb_t 779 (by decide +kernel) (by decide +kernel)
theorem wl6_1 : u_lay RX6 TX6 1 ∈ TB := tb_t 781 (by decide +kernel) (by decide +kernel)
theorem wl6_2 : u_lay RX6 TX6 2 ∈ TB := tb_t 783 (by decide +kernel) (by decide +kernel)
theorem wl6_3 : u_lay RX6 TX6 3 ∈ TB := tb_t 785 (by decide +kernel) (by decide +kernel)
theorem wl6_4 : u_lay RX6 TX6 4 ∈ TB := tb_t 787 (by decide +kernel) (by decide +kernel)
theorem wl6_5 : u_lay RX6 TX6 5 ∈ TB := tb_t 789 (by decide +kernel) (by decide +kernel)
theorem wl6_6 : u_lay RX6 TX6 6 ∈ TB := tb_t 791 (by decide +kernel) (by decide +kernel)
theorem wl6_7 : u_lay RX6 TX6 7 ∈ TB := tb_t 793 (by decide +kernel) (by decide +kernel)
theorem wl6_8 : u_lay RX6 TX6 8 ∈ TB := tb_t 795 (by decide +kernel) (by decide +kernel)
theorem wl6_9 : u_lay RX6 TX6 9 ∈ TB := tb_t 797 (by decide +kernel) (by decide +kernel)
theorem wl6_10 : u_lay RX6 TX6 10 ∈ TB := tb_t 799 (by decide +kernel) (by decide +kernel)
theorem wl6_11 : u_lay RX6 TX6 11 ∈ TB := tb_t 801 (by decide +kernel) (by decide +kernel)
theorem wl6_12 : u_lay RX6 TX6 12 ∈ TB := tb_t 803 (by decide +kernel) (by decide +kernel)
theorem wl6_13 : u_lay RX6 TX6 13 ∈ TB := tb_t 805 (by decide +kernel) (by decide +kernel)
theorem wl6_14 : u_lay RX6 TX6 14 ∈ TB := tb_t 807 (by decide +kernel) (by decide +kernel)
theorem wl6_15 : u_lay RX6 TX6 15 ∈ TB := tb_t 809 (by decide +kernel) (by decide +kernel)
theorem wl6_16 : u_lay RX6 TX6 16 ∈ TB := tb_t 811 (by decide +kernel) (by decide +kernel)
theorem wl6_17 : u_lay RX6 TX6 17 ∈ TB := tb_t 813 (by decide +kernel) (by decide +kernel)
theorem wlX6 : ∀ x ∈ u_ws RX6 TX6 18, x ∈ TB := by
  intro x hx
  obtain ⟨k, hk, rfl⟩ := List.mem_map.mp hx
  have hk := List.mem_range.mp hk
  match k, hk with
  | 0, _ => exact wl6_0
  | 1, _ => exact wl6_1
  | 2, _ => exact wl6_2
  | 3, _ => exact wl6_3
  | 4, _ => exact wl6_4
  | 5, _ => exact wl6_5
  | 6, _ => exact wl6_6
  | 7, _ => exact wl6_7
  | 8, _ => exact wl6_8
  | 9, _ => exact wl6_9
  | 10, _ => exact wl6_10
  | 11, _ => exact wl6_11
  | 12, _ => exact wl6_12
  | 13, _ => exact wl6_13
  | 14, _ => exact wl6_14
  | 15, _ => exact wl6_15
  | 16, _ => exact wl6_16
  | 17, _ => exact wl6_17
  | k + 18, hk => exact absurd hk (by omega)
theorem clX6 : ClOk 5 RX6 TX6 18 tyX6 := ⟨rfl, wlX6, tyX6_ok, nmX6⟩
theorem wfX5_10 : Cond.fieldLink RX5 10 "LaughTax" "live" "LLaughTax$Room;" ∈ TB := tb_t 180 (by decide +kernel) (by decide +kernel)
theorem gfX5_10 {M : MC} {w : WE} {sh : List Shp} {cc : ByteArray} {nL : Nat} {ret : Option FieldType} {d : Nat} {α : Type} {ι : α → Option Value × Mem} {pc : Nat} {lv : List (Option Value)} {st : List Value} {σ : Mem} {b : Option α} (X : Cx M w sh cc nL RX5 ret d) {k : Nat} {fs : List (Option Nat)} (q : Nat) (hs : sh[k]? = some (.inr (4, fs))) (hf : fs[0]? = some (some q)) (hd : decode cc pc = .ok (.getfield 10, 3)) (kk : Cp M w sh nL ι (pc + 3) lv (.ref (wad w q) :: st) σ b) : Cp M w sh nL ι pc lv (.ref (wad w k) :: st) σ b := Cp.getR X clX5 hs 0 (by decide) wfX5_10 hf hd kk
theorem wfX5_16 : Cond.fieldLink RX5 16 "LaughTax" "trial" "LLaughTax$Room;" ∈ TB := tb_t 181 (by decide +kernel) (by decide +kernel)
theorem gfX5_16 {M : MC} {w : WE} {sh : List Shp} {cc : ByteArray} {nL : Nat} {ret : Option FieldType} {d : Nat} {α : Type} {ι : α → Option Value × Mem} {pc : Nat} {lv : List (Option Value)} {st : List Value} {σ : Mem} {b : Option α} (X : Cx M w sh cc nL RX5 ret d) {k : Nat} {fs : List (Option Nat)} (q : Nat) (hs : sh[k]? = some (.inr (4, fs))) (hf : fs[1]? = some (some q)) (hd : decode cc pc = .ok (.getfield 16, 3)) (kk : Cp M w sh nL ι (pc + 3) lv (.ref (wad w q) :: st) σ b) : Cp M w sh nL ι pc lv (.ref (wad w k) :: st) σ b := Cp.getR X clX5 hs 1 (by decide) wfX5_16 hf hd kk
theorem wfX5_19 : Cond.fieldLink RX5 19 "LaughTax" "kept" "LLaughTax$Room;" ∈ TB := tb_t 182 (by decide +kernel) (by decide +kernel)
theorem gfX5_19 {M : MC} {w : WE} {sh : List Shp} {cc : ByteArray} {nL : Nat} {ret : Option FieldType} {d : Nat} {α : Type} {ι : α → Option Value × Mem} {pc : Nat} {lv : List (Option Value)} {st : List Value} {σ : Mem} {b : Option α} (X : Cx M w sh cc nL RX5 ret d) {k : Nat} {fs : List (Option Nat)} (q : Nat) (hs : sh[k]? = some (.inr (4, fs))) (hf : fs[2]? = some (some q)) (hd : decode cc pc = .ok (.getfield 19, 3)) (kk : Cp M w sh nL ι (pc + 3) lv (.ref (wad w q) :: st) σ b) : Cp M w sh nL ι pc lv (.ref (wad w k) :: st) σ b := Cp.getR X clX5 hs 2 (by decide) wfX5_19 hf hd kk
theorem wfX5_22 : Cond.fieldLink RX5 22 "LaughTax" "keeps" "Z" ∈ TB := tb_t 183 (by decide +kernel) (by decide +kernel)
theorem gfX5_22 {M : MC} {w : WE} {sh : List Shp} {cc : ByteArray} {nL : Nat} {ret : Option FieldType} {d : Nat} {α : Type} {ι : α → Option Value × Mem} {pc : Nat} {lv : List (Option Value)} {st : List Value} {σ : Mem} {b : Option α} (X : Cx M w sh cc nL RX5 ret d) {k : Nat} {fs : List (Option Nat)} (hs : sh[k]? = some (.inr (4, fs))) (hf : fs[3]? = some none) (hd : decode cc pc = .ok (.getfield 22, 3)) (kk : Cp M w sh nL ι (pc + 3) lv (.int (σ k 3) :: st) σ b) : Cp M w sh nL ι pc lv (.ref (wad w k) :: st) σ b := Cp.getI X clX5 hs 3 (by decide) wfX5_22 hf hd kk
theorem pfX5_22 {M : MC} {w : WE} {sh : List Shp} {cc : ByteArray} {nL : Nat} {ret : Option FieldType} {d : Nat} {α : Type} {ι : α → Option Value × Mem} {pc : Nat} {lv : List (Option Value)} {st : List Value} {σ : Mem} {b : Option α} (X : Cx M w sh cc nL RX5 ret d) {k : Nat} {fs : List (Option Nat)} (hs : sh[k]? = some (.inr (4, fs))) (hf : fs[3]? = some none) {v : Int32} (hd : decode cc pc = .ok (.putfield 22, 3)) (kk : Cp M w sh nL ι (pc + 3) lv st (up2 σ k 3 v) b) : Cp M w sh nL ι pc lv (.int v :: .ref (wad w k) :: st) σ (gd (v = 0 ∨ v = 1) b) := Cp.putZ X clX5 hs 3 (by decide) wfX5_22 hf rfl (by decide +kernel) hd kk
theorem pfcX5_22 {M : MC} {w : WE} {sh : List Shp} {cc : ByteArray} {nL : Nat} {ret : Option FieldType} {d : Nat} {α : Type} {ι : α → Option Value × Mem} {pc : Nat} {lv : List (Option Value)} {st : List Value} {σ : Mem} {b : Option α} (X : Cx M w sh cc nL RX5 ret d) {k : Nat} {fs : List (Option Nat)} (hs : sh[k]? = some (.inr (4, fs))) (hf : fs[3]? = some none) {v : Int32} (hv : v = 0 ∨ v = 1) (hd : decode cc pc = .ok (.putfield 22, 3)) (kk : Cp M w sh nL ι (pc + 3) lv st (up2 σ k 3 v) b) : Cp M w sh nL ι pc lv (.int v :: .ref (wad w k) :: st) σ b := Cp.putZc X clX5 hs 3 (by decide) wfX5_22 hf rfl (by decide +kernel) hv hd kk
theorem wfX5_29 : Cond.fieldLink RX5 29 "LaughTax" "telling" "LLaughTax$Telling;" ∈ TB := tb_t 184 (by decide +kernel) (by decide +kernel)
theorem gfX5_29 {M : MC} {w : WE} {sh : List Shp} {cc : ByteArray} {nL : Nat} {ret : Option FieldType} {d : Nat} {α : Type} {ι : α → Option Value × Mem} {pc : Nat} {lv : List (Option Value)} {st : List Value} {σ : Mem} {b : Option α} (X : Cx M w sh cc nL RX5 ret d) {k : Nat} {fs : List (Option Nat)} (q : Nat) (hs : sh[k]? = some (.inr (4, fs))) (hf : fs[4]? = some (some q)) (hd : decode cc pc = .ok (.getfield 29, 3)) (kk : Cp M w sh nL ι (pc + 3) lv (.ref (wad w q) :: st) σ b) : Cp M w sh nL ι pc lv (.ref (wad w k) :: st) σ b := Cp.getR X clX5 hs 4 (by decide) wfX5_29 hf hd kk
theorem wfX5_36 : Cond.fieldLink RX5 36 "LaughTax" "tape" "LLaughTax$Tape;" ∈ TB := tb_t 185 (by decide +kernel) (by decide +kernel)
theorem gfX5_36 {M : MC} {w : WE} {sh : List Shp} {cc : ByteArray} {nL : Nat} {ret : Option FieldType} {d : Nat} {α : Type} {ι : α → Option Value × Mem} {pc : Nat} {lv : List (Option Value)} {st : List Value} {σ : Mem} {b : Option α} (X : Cx M w sh cc nL RX5 ret d) {k : Nat} {fs : List (Option Nat)} (q : Nat) (hs : sh[k]? = some (.inr (4, fs))) (hf : fs[5]? = some (some q)) (hd : decode cc pc = .ok (.getfield 36, 3)) (kk : Cp M w sh nL ι (pc + 3) lv (.ref (wad w q) :: st) σ b) : Cp M w sh nL ι pc lv (.ref (wad w k) :: st) σ b := Cp.getR X clX5 hs 5 (by decide) wfX5_36 hf hd kk
theorem wfX5_42 : Cond.fieldLink RX5 42 "LaughTax" "sheets" "[LLaughTax$Sheet;" ∈ TB := tb_t 186 (by decide +kernel) (by decide +kernel)
theorem gfX5_42 {M : MC} {w : WE} {sh : List Shp} {cc : ByteArray} {nL : Nat} {ret : Option FieldType} {d : Nat} {α : Type} {ι : α → Option Value × Mem} {pc : Nat} {lv : List (Option Value)} {st : List Value} {σ : Mem} {b : Option α} (X : Cx M w sh cc nL RX5 ret d) {k : Nat} {fs : List (Option Nat)} (q : Nat) (hs : sh[k]? = some (.inr (4, fs))) (hf : fs[6]? = some (some q)) (hd : decode cc pc = .ok (.getfield 42, 3)) (kk : Cp M w sh nL ι (pc + 3) lv (.ref (wad w q) :: st) σ b) : Cp M w sh nL ι pc lv (.ref (wad w k) :: st) σ b := Cp.getR X clX5 hs 6 (by decide) wfX5_42 hf hd kk
theorem wfX5_47 : Cond.fieldLink RX5 47 "LaughTax" "findings" "[I" ∈ TB := tb_t 187 (by decide +kernel) (by decide +kernel)
theorem gfX5_47 {M : MC} {w : WE} {sh : List Shp} {cc : ByteArray} {nL : Nat} {ret : Option FieldType} {d : Nat} {α : Type} {ι : α → Option Value × Mem} {pc : Nat} {lv : List (Option Value)} {st : List Value} {σ : Mem} {b : Option α} (X : Cx M w sh cc nL RX5 ret d) {k : Nat} {fs : List (Option Nat)} (q : Nat) (hs : sh[k]? = some (.inr (4, fs))) (hf : fs[7]? = some (some q)) (hd : decode cc pc = .ok (.getfield 47, 3)) (kk : Cp M w sh nL ι (pc + 3) lv (.ref (wad w q) :: st) σ b) : Cp M w sh nL ι pc lv (.ref (wad w k) :: st) σ b := Cp.getR X clX5 hs 7 (by decide) wfX5_47 hf hd kk
theorem wfX5_63 : Cond.fieldLinkNest RX5 63 "LaughTax$Room" "people" "I" "LaughTax" ∈ TB := tb_t 31 (by decide +kernel) (by decide +kernel)
theorem gfX5_63 {M : MC} {w : WE} {sh : List Shp} {cc : ByteArray} {nL : Nat} {ret : Option FieldType} {d : Nat} {α : Type} {ι : α → Option Value × Mem} {pc : Nat} {lv : List (Option Value)} {st : List Value} {σ : Mem} {b : Option α} (X : Cx M w sh cc nL RX5 ret d) {k : Nat} {fs : List (Option Nat)} (hs : sh[k]? = some (.inr (0, fs))) (hf : fs[0]? = some none) (hd : decode cc pc = .ok (.getfield 63, 3)) (kk : Cp M w sh nL ι (pc + 3) lv (.int (σ k 0) :: st) σ b) : Cp M w sh nL ι pc lv (.ref (wad w k) :: st) σ b := Cp.getIN X clX1 hs 0 (by decide) wfX5_63 hf hd kk
theorem pfX5_63 {M : MC} {w : WE} {sh : List Shp} {cc : ByteArray} {nL : Nat} {ret : Option FieldType} {d : Nat} {α : Type} {ι : α → Option Value × Mem} {pc : Nat} {lv : List (Option Value)} {st : List Value} {σ : Mem} {b : Option α} (X : Cx M w sh cc nL RX5 ret d) {k : Nat} {fs : List (Option Nat)} (hs : sh[k]? = some (.inr (0, fs))) (hf : fs[0]? = some none) {v : Int32} (hd : decode cc pc = .ok (.putfield 63, 3)) (kk : Cp M w sh nL ι (pc + 3) lv st (up2 σ k 0 v) b) : Cp M w sh nL ι pc lv (.int v :: .ref (wad w k) :: st) σ b := Cp.putIN X clX1 hs 0 (by decide) wfX5_63 hf rfl (by decide +kernel) hd kk
theorem wfX5_75 : Cond.fieldLinkNest RX5 75 "LaughTax$Room" "kind" "[I" "LaughTax" ∈ TB := tb_t 35 (by decide +kernel) (by decide +kernel)
theorem gfX5_75 {M : MC} {w : WE} {sh : List Shp} {cc : ByteArray} {nL : Nat} {ret : Option FieldType} {d : Nat} {α : Type} {ι : α → Option Value × Mem} {pc : Nat} {lv : List (Option Value)} {st : List Value} {σ : Mem} {b : Option α} (X : Cx M w sh cc nL RX5 ret d) {k : Nat} {fs : List (Option Nat)} (q : Nat) (hs : sh[k]? = some (.inr (0, fs))) (hf : fs[1]? = some (some q)) (hd : decode cc pc = .ok (.getfield 75, 3)) (kk : Cp M w sh nL ι (pc + 3) lv (.ref (wad w q) :: st) σ b) : Cp M w sh nL ι pc lv (.ref (wad w k) :: st) σ b := Cp.getRN X clX1 hs 1 (by decide) wfX5_75 hf hd kk
theorem wfX5_78 : Cond.fieldLinkNest RX5 78 "LaughTax$Room" "seat" "[I" "LaughTax" ∈ TB := tb_t 37 (by decide +kernel) (by decide +kernel)
theorem gfX5_78 {M : MC} {w : WE} {sh : List Shp} {cc : ByteArray} {nL : Nat} {ret : Option FieldType} {d : Nat} {α : Type} {ι : α → Option Value × Mem} {pc : Nat} {lv : List (Option Value)} {st : List Value} {σ : Mem} {b : Option α} (X : Cx M w sh cc nL RX5 ret d) {k : Nat} {fs : List (Option Nat)} (q : Nat) (hs : sh[k]? = some (.inr (0, fs))) (hf : fs[2]? = some (some q)) (hd : decode cc pc = .ok (.getfield 78, 3)) (kk : Cp M w sh nL ι (pc + 3) lv (.ref (wad w q) :: st) σ b) : Cp M w sh nL ι pc lv (.ref (wad w k) :: st) σ b := Cp.getRN X clX1 hs 2 (by decide) wfX5_78 hf hd kk
theorem wfX5_81 : Cond.fieldLinkNest RX5 81 "LaughTax$Room" "taste" "[I" "LaughTax" ∈ TB := tb_t 40 (by decide +kernel) (by decide +kernel)
theorem gfX5_81 {M : MC} {w : WE} {sh : List Shp} {cc : ByteArray} {nL : Nat} {ret : Option FieldType} {d : Nat} {α : Type} {ι : α → Option Value × Mem} {pc : Nat} {lv : List (Option Value)} {st : List Value} {σ : Mem} {b : Option α} (X : Cx M w sh cc nL RX5 ret d) {k : Nat} {fs : List (Option Nat)} (q : Nat) (hs : sh[k]? = some (.inr (0, fs))) (hf : fs[3]? = some (some q)) (hd : decode cc pc = .ok (.getfield 81, 3)) (kk : Cp M w sh nL ι (pc + 3) lv (.ref (wad w q) :: st) σ b) : Cp M w sh nL ι pc lv (.ref (wad w k) :: st) σ b := Cp.getRN X clX1 hs 3 (by decide) wfX5_81 hf hd kk
theorem wfX5_84 : Cond.fieldLinkNest RX5 84 "LaughTax$Room" "mood" "[I" "LaughTax" ∈ TB := tb_t 43 (by decide +kernel) (by decide +kernel)
theorem gfX5_84 {M : MC} {w : WE} {sh : List Shp} {cc : ByteArray} {nL : Nat} {ret : Option FieldType} {d : Nat} {α : Type} {ι : α → Option Value × Mem} {pc : Nat} {lv : List (Option Value)} {st : List Value} {σ : Mem} {b : Option α} (X : Cx M w sh cc nL RX5 ret d) {k : Nat} {fs : List (Option Nat)} (q : Nat) (hs : sh[k]? = some (.inr (0, fs))) (hf : fs[4]? = some (some q)) (hd : decode cc pc = .ok (.getfield 84, 3)) (kk : Cp M w sh nL ι (pc + 3) lv (.ref (wad w q) :: st) σ b) : Cp M w sh nL ι pc lv (.ref (wad w k) :: st) σ b := Cp.getRN X clX1 hs 4 (by decide) wfX5_84 hf hd kk
theorem wfX5_87 : Cond.fieldLinkNest RX5 87 "LaughTax$Room" "purse" "[I" "LaughTax" ∈ TB := tb_t 48 (by decide +kernel) (by decide +kernel)
theorem gfX5_87 {M : MC} {w : WE} {sh : List Shp} {cc : ByteArray} {nL : Nat} {ret : Option FieldType} {d : Nat} {α : Type} {ι : α → Option Value × Mem} {pc : Nat} {lv : List (Option Value)} {st : List Value} {σ : Mem} {b : Option α} (X : Cx M w sh cc nL RX5 ret d) {k : Nat} {fs : List (Option Nat)} (q : Nat) (hs : sh[k]? = some (.inr (0, fs))) (hf : fs[5]? = some (some q)) (hd : decode cc pc = .ok (.getfield 87, 3)) (kk : Cp M w sh nL ι (pc + 3) lv (.ref (wad w q) :: st) σ b) : Cp M w sh nL ι pc lv (.ref (wad w k) :: st) σ b := Cp.getRN X clX1 hs 5 (by decide) wfX5_87 hf hd kk
theorem wfX5_98 : Cond.fieldLinkNest RX5 98 "LaughTax$Room" "near" "[I" "LaughTax" ∈ TB := tb_t 51 (by decide +kernel) (by decide +kernel)
theorem gfX5_98 {M : MC} {w : WE} {sh : List Shp} {cc : ByteArray} {nL : Nat} {ret : Option FieldType} {d : Nat} {α : Type} {ι : α → Option Value × Mem} {pc : Nat} {lv : List (Option Value)} {st : List Value} {σ : Mem} {b : Option α} (X : Cx M w sh cc nL RX5 ret d) {k : Nat} {fs : List (Option Nat)} (q : Nat) (hs : sh[k]? = some (.inr (0, fs))) (hf : fs[6]? = some (some q)) (hd : decode cc pc = .ok (.getfield 98, 3)) (kk : Cp M w sh nL ι (pc + 3) lv (.ref (wad w q) :: st) σ b) : Cp M w sh nL ι pc lv (.ref (wad w k) :: st) σ b := Cp.getRN X clX1 hs 6 (by decide) wfX5_98 hf hd kk
theorem wfX5_123 : Cond.fieldLinkNest RX5 123 "LaughTax$Room" "jokes" "I" "LaughTax" ∈ TB := tb_t 54 (by decide +kernel) (by decide +kernel)
theorem gfX5_123 {M : MC} {w : WE} {sh : List Shp} {cc : ByteArray} {nL : Nat} {ret : Option FieldType} {d : Nat} {α : Type} {ι : α → Option Value × Mem} {pc : Nat} {lv : List (Option Value)} {st : List Value} {σ : Mem} {b : Option α} (X : Cx M w sh cc nL RX5 ret d) {k : Nat} {fs : List (Option Nat)} (hs : sh[k]? = some (.inr (0, fs))) (hf : fs[7]? = some none) (hd : decode cc pc = .ok (.getfield 123, 3)) (kk : Cp M w sh nL ι (pc + 3) lv (.int (σ k 7) :: st) σ b) : Cp M w sh nL ι pc lv (.ref (wad w k) :: st) σ b := Cp.getIN X clX1 hs 7 (by decide) wfX5_123 hf hd kk
theorem pfX5_123 {M : MC} {w : WE} {sh : List Shp} {cc : ByteArray} {nL : Nat} {ret : Option FieldType} {d : Nat} {α : Type} {ι : α → Option Value × Mem} {pc : Nat} {lv : List (Option Value)} {st : List Value} {σ : Mem} {b : Option α} (X : Cx M w sh cc nL RX5 ret d) {k : Nat} {fs : List (Option Nat)} (hs : sh[k]? = some (.inr (0, fs))) (hf : fs[7]? = some none) {v : Int32} (hd : decode cc pc = .ok (.putfield 123, 3)) (kk : Cp M w sh nL ι (pc + 3) lv st (up2 σ k 7 v) b) : Cp M w sh nL ι pc lv (.int v :: .ref (wad w k) :: st) σ b := Cp.putIN X clX1 hs 7 (by decide) wfX5_123 hf rfl (by decide +kernel) hd kk
theorem wfX5_136 : Cond.fieldLinkNest RX5 136 "LaughTax$Room" "topics" "[I" "LaughTax" ∈ TB := tb_t 58 (by decide +kernel) (by decide +kernel)
theorem gfX5_136 {M : MC} {w : WE} {sh : List Shp} {cc : ByteArray} {nL : Nat} {ret : Option FieldType} {d : Nat} {α : Type} {ι : α → Option Value × Mem} {pc : Nat} {lv : List (Option Value)} {st : List Value} {σ : Mem} {b : Option α} (X : Cx M w sh cc nL RX5 ret d) {k : Nat} {fs : List (Option Nat)} (q : Nat) (hs : sh[k]? = some (.inr (0, fs))) (hf : fs[8]? = some (some q)) (hd : decode cc pc = .ok (.getfield 136, 3)) (kk : Cp M w sh nL ι (pc + 3) lv (.ref (wad w q) :: st) σ b) : Cp M w sh nL ι pc lv (.ref (wad w k) :: st) σ b := Cp.getRN X clX1 hs 8 (by decide) wfX5_136 hf hd kk
theorem wfX5_139 : Cond.fieldLinkNest RX5 139 "LaughTax$Room" "fun" "[I" "LaughTax" ∈ TB := tb_t 61 (by decide +kernel) (by decide +kernel)
theorem gfX5_139 {M : MC} {w : WE} {sh : List Shp} {cc : ByteArray} {nL : Nat} {ret : Option FieldType} {d : Nat} {α : Type} {ι : α → Option Value × Mem} {pc : Nat} {lv : List (Option Value)} {st : List Value} {σ : Mem} {b : Option α} (X : Cx M w sh cc nL RX5 ret d) {k : Nat} {fs : List (Option Nat)} (q : Nat) (hs : sh[k]? = some (.inr (0, fs))) (hf : fs[9]? = some (some q)) (hd : decode cc pc = .ok (.getfield 139, 3)) (kk : Cp M w sh nL ι (pc + 3) lv (.ref (wad w q) :: st) σ b) : Cp M w sh nL ι pc lv (.ref (wad w k) :: st) σ b := Cp.getRN X clX1 hs 9 (by decide) wfX5_139 hf hd kk
theorem wfX5_142 : Cond.fieldLinkNest RX5 142 "LaughTax$Room" "rate" "I" "LaughTax" ∈ TB := tb_t 64 (by decide +kernel) (by decide +kernel)
theorem gfX5_142 {M : MC} {w : WE} {sh : List Shp} {cc : ByteArray} {nL : Nat} {ret : Option FieldType} {d : Nat} {α : Type} {ι : α → Option Value × Mem} {pc : Nat} {lv : List (Option Value)} {st : List Value} {σ : Mem} {b : Option α} (X : Cx M w sh cc nL RX5 ret d) {k : Nat} {fs : List (Option Nat)} (hs : sh[k]? = some (.inr (0, fs))) (hf : fs[10]? = some none) (hd : decode cc pc = .ok (.getfield 142, 3)) (kk : Cp M w sh nL ι (pc + 3) lv (.int (σ k 10) :: st) σ b) : Cp M w sh nL ι pc lv (.ref (wad w k) :: st) σ b := Cp.getIN X clX1 hs 10 (by decide) wfX5_142 hf hd kk
theorem pfX5_142 {M : MC} {w : WE} {sh : List Shp} {cc : ByteArray} {nL : Nat} {ret : Option FieldType} {d : Nat} {α : Type} {ι : α → Option Value × Mem} {pc : Nat} {lv : List (Option Value)} {st : List Value} {σ : Mem} {b : Option α} (X : Cx M w sh cc nL RX5 ret d) {k : Nat} {fs : List (Option Nat)} (hs : sh[k]? = some (.inr (0, fs))) (hf : fs[10]? = some none) {v : Int32} (hd : decode cc pc = .ok (.putfield 142, 3)) (kk : Cp M w sh nL ι (pc + 3) lv st (up2 σ k 10 v) b) : Cp M w sh nL ι pc lv (.int v :: .ref (wad w k) :: st) σ b := Cp.putIN X clX1 hs 10 (by decide) wfX5_142 hf rfl (by decide +kernel) hd kk
theorem wfX5_145 : Cond.fieldLinkNest RX5 145 "LaughTax$Room" "reach" "I" "LaughTax" ∈ TB := tb_t 66 (by decide +kernel) (by decide +kernel)
theorem gfX5_145 {M : MC} {w : WE} {sh : List Shp} {cc : ByteArray} {nL : Nat} {ret : Option FieldType} {d : Nat} {α : Type} {ι : α → Option Value × Mem} {pc : Nat} {lv : List (Option Value)} {st : List Value} {σ : Mem} {b : Option α} (X : Cx M w sh cc nL RX5 ret d) {k : Nat} {fs : List (Option Nat)} (hs : sh[k]? = some (.inr (0, fs))) (hf : fs[11]? = some none) (hd : decode cc pc = .ok (.getfield 145, 3)) (kk : Cp M w sh nL ι (pc + 3) lv (.int (σ k 11) :: st) σ b) : Cp M w sh nL ι pc lv (.ref (wad w k) :: st) σ b := Cp.getIN X clX1 hs 11 (by decide) wfX5_145 hf hd kk
theorem pfX5_145 {M : MC} {w : WE} {sh : List Shp} {cc : ByteArray} {nL : Nat} {ret : Option FieldType} {d : Nat} {α : Type} {ι : α → Option Value × Mem} {pc : Nat} {lv : List (Option Value)} {st : List Value} {σ : Mem} {b : Option α} (X : Cx M w sh cc nL RX5 ret d) {k : Nat} {fs : List (Option Nat)} (hs : sh[k]? = some (.inr (0, fs))) (hf : fs[11]? = some none) {v : Int32} (hd : decode cc pc = .ok (.putfield 145, 3)) (kk : Cp M w sh nL ι (pc + 3) lv st (up2 σ k 11 v) b) : Cp M w sh nL ι pc lv (.int v :: .ref (wad w k) :: st) σ b := Cp.putIN X clX1 hs 11 (by decide) wfX5_145 hf rfl (by decide +kernel) hd kk
theorem wfX5_162 : Cond.fieldLinkNest RX5 162 "LaughTax$Room" "told" "I" "LaughTax" ∈ TB := tb_t 72 (by decide +kernel) (by decide +kernel)
theorem gfX5_162 {M : MC} {w : WE} {sh : List Shp} {cc : ByteArray} {nL : Nat} {ret : Option FieldType} {d : Nat} {α : Type} {ι : α → Option Value × Mem} {pc : Nat} {lv : List (Option Value)} {st : List Value} {σ : Mem} {b : Option α} (X : Cx M w sh cc nL RX5 ret d) {k : Nat} {fs : List (Option Nat)} (hs : sh[k]? = some (.inr (0, fs))) (hf : fs[13]? = some none) (hd : decode cc pc = .ok (.getfield 162, 3)) (kk : Cp M w sh nL ι (pc + 3) lv (.int (σ k 13) :: st) σ b) : Cp M w sh nL ι pc lv (.ref (wad w k) :: st) σ b := Cp.getIN X clX1 hs 13 (by decide) wfX5_162 hf hd kk
theorem pfX5_162 {M : MC} {w : WE} {sh : List Shp} {cc : ByteArray} {nL : Nat} {ret : Option FieldType} {d : Nat} {α : Type} {ι : α → Option Value × Mem} {pc : Nat} {lv : List (Option Value)} {st : List Value} {σ : Mem} {b : Option α} (X : Cx M w sh cc nL RX5 ret d) {k : Nat} {fs : List (Option Nat)} (hs : sh[k]? = some (.inr (0, fs))) (hf : fs[13]? = some none) {v : Int32} (hd : decode cc pc = .ok (.putfield 162, 3)) (kk : Cp M w sh nL ι (pc + 3) lv st (up2 σ k 13 v) b) : Cp M w sh nL ι pc lv (.int v :: .ref (wad w k) :: st) σ b := Cp.putIN X clX1 hs 13 (by decide) wfX5_162 hf rfl (by decide +kernel) hd kk
theorem wfX5_175 : Cond.fieldLinkNest RX5 175 "LaughTax$Room" "treasury" "I" "LaughTax" ∈ TB := tb_t 69 (by decide +kernel) (by decide +kernel)
theorem gfX5_175 {M : MC} {w : WE} {sh : List Shp} {cc : ByteArray} {nL : Nat} {ret : Option FieldType} {d : Nat} {α : Type} {ι : α → Option Value × Mem} {pc : Nat} {lv : List (Option Value)} {st : List Value} {σ : Mem} {b : Option α} (X : Cx M w sh cc nL RX5 ret d) {k : Nat} {fs : List (Option Nat)} (hs : sh[k]? = some (.inr (0, fs))) (hf : fs[12]? = some none) (hd : decode cc pc = .ok (.getfield 175, 3)) (kk : Cp M w sh nL ι (pc + 3) lv (.int (σ k 12) :: st) σ b) : Cp M w sh nL ι pc lv (.ref (wad w k) :: st) σ b := Cp.getIN X clX1 hs 12 (by decide) wfX5_175 hf hd kk
theorem pfX5_175 {M : MC} {w : WE} {sh : List Shp} {cc : ByteArray} {nL : Nat} {ret : Option FieldType} {d : Nat} {α : Type} {ι : α → Option Value × Mem} {pc : Nat} {lv : List (Option Value)} {st : List Value} {σ : Mem} {b : Option α} (X : Cx M w sh cc nL RX5 ret d) {k : Nat} {fs : List (Option Nat)} (hs : sh[k]? = some (.inr (0, fs))) (hf : fs[12]? = some none) {v : Int32} (hd : decode cc pc = .ok (.putfield 175, 3)) (kk : Cp M w sh nL ι (pc + 3) lv st (up2 σ k 12 v) b) : Cp M w sh nL ι pc lv (.int v :: .ref (wad w k) :: st) σ b := Cp.putIN X clX1 hs 12 (by decide) wfX5_175 hf rfl (by decide +kernel) hd kk
theorem wfX5_198 : Cond.fieldLinkNest RX5 198 "LaughTax$Telling" "lastRound" "I" "LaughTax" ∈ TB := tb_t 122 (by decide +kernel) (by decide +kernel)
theorem gfX5_198 {M : MC} {w : WE} {sh : List Shp} {cc : ByteArray} {nL : Nat} {ret : Option FieldType} {d : Nat} {α : Type} {ι : α → Option Value × Mem} {pc : Nat} {lv : List (Option Value)} {st : List Value} {σ : Mem} {b : Option α} (X : Cx M w sh cc nL RX5 ret d) {k : Nat} {fs : List (Option Nat)} (hs : sh[k]? = some (.inr (3, fs))) (hf : fs[2]? = some none) (hd : decode cc pc = .ok (.getfield 198, 3)) (kk : Cp M w sh nL ι (pc + 3) lv (.int (σ k 2) :: st) σ b) : Cp M w sh nL ι pc lv (.ref (wad w k) :: st) σ b := Cp.getIN X clX4 hs 2 (by decide) wfX5_198 hf hd kk
theorem pfX5_198 {M : MC} {w : WE} {sh : List Shp} {cc : ByteArray} {nL : Nat} {ret : Option FieldType} {d : Nat} {α : Type} {ι : α → Option Value × Mem} {pc : Nat} {lv : List (Option Value)} {st : List Value} {σ : Mem} {b : Option α} (X : Cx M w sh cc nL RX5 ret d) {k : Nat} {fs : List (Option Nat)} (hs : sh[k]? = some (.inr (3, fs))) (hf : fs[2]? = some none) {v : Int32} (hd : decode cc pc = .ok (.putfield 198, 3)) (kk : Cp M w sh nL ι (pc + 3) lv st (up2 σ k 2 v) b) : Cp M w sh nL ι pc lv (.int v :: .ref (wad w k) :: st) σ b := Cp.putIN X clX4 hs 2 (by decide) wfX5_198 hf rfl (by decide +kernel) hd kk
theorem wfX5_205 : Cond.fieldLinkNest RX5 205 "LaughTax$Telling" "paid" "[I" "LaughTax" ∈ TB := tb_t 120 (by decide +kernel) (by decide +kernel)
theorem gfX5_205 {M : MC} {w : WE} {sh : List Shp} {cc : ByteArray} {nL : Nat} {ret : Option FieldType} {d : Nat} {α : Type} {ι : α → Option Value × Mem} {pc : Nat} {lv : List (Option Value)} {st : List Value} {σ : Mem} {b : Option α} (X : Cx M w sh cc nL RX5 ret d) {k : Nat} {fs : List (Option Nat)} (q : Nat) (hs : sh[k]? = some (.inr (3, fs))) (hf : fs[1]? = some (some q)) (hd : decode cc pc = .ok (.getfield 205, 3)) (kk : Cp M w sh nL ι (pc + 3) lv (.ref (wad w q) :: st) σ b) : Cp M w sh nL ι pc lv (.ref (wad w k) :: st) σ b := Cp.getRN X clX4 hs 1 (by decide) wfX5_205 hf hd kk
theorem wfX5_248 : Cond.fieldLinkNest RX5 248 "LaughTax$Room" "z" "I" "LaughTax" ∈ TB := tb_t 74 (by decide +kernel) (by decide +kernel)
theorem gfX5_248 {M : MC} {w : WE} {sh : List Shp} {cc : ByteArray} {nL : Nat} {ret : Option FieldType} {d : Nat} {α : Type} {ι : α → Option Value × Mem} {pc : Nat} {lv : List (Option Value)} {st : List Value} {σ : Mem} {b : Option α} (X : Cx M w sh cc nL RX5 ret d) {k : Nat} {fs : List (Option Nat)} (hs : sh[k]? = some (.inr (0, fs))) (hf : fs[14]? = some none) (hd : decode cc pc = .ok (.getfield 248, 3)) (kk : Cp M w sh nL ι (pc + 3) lv (.int (σ k 14) :: st) σ b) : Cp M w sh nL ι pc lv (.ref (wad w k) :: st) σ b := Cp.getIN X clX1 hs 14 (by decide) wfX5_248 hf hd kk
theorem pfX5_248 {M : MC} {w : WE} {sh : List Shp} {cc : ByteArray} {nL : Nat} {ret : Option FieldType} {d : Nat} {α : Type} {ι : α → Option Value × Mem} {pc : Nat} {lv : List (Option Value)} {st : List Value} {σ : Mem} {b : Option α} (X : Cx M w sh cc nL RX5 ret d) {k : Nat} {fs : List (Option Nat)} (hs : sh[k]? = some (.inr (0, fs))) (hf : fs[14]? = some none) {v : Int32} (hd : decode cc pc = .ok (.putfield 248, 3)) (kk : Cp M w sh nL ι (pc + 3) lv st (up2 σ k 14 v) b) : Cp M w sh nL ι pc lv (.int v :: .ref (wad w k) :: st) σ b := Cp.putIN X clX1 hs 14 (by decide) wfX5_248 hf rfl (by decide +kernel) hd kk
theorem wfX5_251 : Cond.fieldLinkNest RX5 251 "LaughTax$Tape" "length" "I" "LaughTax" ∈ TB := tb_t 138 (by decide +kernel) (by decide +kernel)
theorem gfX5_251 {M : MC} {w : WE} {sh : List Shp} {cc : ByteArray} {nL : Nat} {ret : Option FieldType} {d : Nat} {α : Type} {ι : α → Option Value × Mem} {pc : Nat} {lv : List (Option Value)} {st : List Value} {σ : Mem} {b : Option α} (X : Cx M w sh cc nL RX5 ret d) {k : Nat} {fs : List (Option Nat)} (hs : sh[k]? = some (.inr (2, fs))) (hf : fs[1]? = some none) (hd : decode cc pc = .ok (.getfield 251, 3)) (kk : Cp M w sh nL ι (pc + 3) lv (.int (σ k 1) :: st) σ b) : Cp M w sh nL ι pc lv (.ref (wad w k) :: st) σ b := Cp.getIN X clX3 hs 1 (by decide) wfX5_251 hf hd kk
theorem pfX5_251 {M : MC} {w : WE} {sh : List Shp} {cc : ByteArray} {nL : Nat} {ret : Option FieldType} {d : Nat} {α : Type} {ι : α → Option Value × Mem} {pc : Nat} {lv : List (Option Value)} {st : List Value} {σ : Mem} {b : Option α} (X : Cx M w sh cc nL RX5 ret d) {k : Nat} {fs : List (Option Nat)} (hs : sh[k]? = some (.inr (2, fs))) (hf : fs[1]? = some none) {v : Int32} (hd : decode cc pc = .ok (.putfield 251, 3)) (kk : Cp M w sh nL ι (pc + 3) lv st (up2 σ k 1 v) b) : Cp M w sh nL ι pc lv (.int v :: .ref (wad w k) :: st) σ b := Cp.putIN X clX3 hs 1 (by decide) wfX5_251 hf rfl (by decide +kernel) hd kk
theorem wfX5_262 : Cond.fieldLinkNest RX5 262 "LaughTax$Room" "spots" "[I" "LaughTax" ∈ TB := tb_t 76 (by decide +kernel) (by decide +kernel)
theorem gfX5_262 {M : MC} {w : WE} {sh : List Shp} {cc : ByteArray} {nL : Nat} {ret : Option FieldType} {d : Nat} {α : Type} {ι : α → Option Value × Mem} {pc : Nat} {lv : List (Option Value)} {st : List Value} {σ : Mem} {b : Option α} (X : Cx M w sh cc nL RX5 ret d) {k : Nat} {fs : List (Option Nat)} (q : Nat) (hs : sh[k]? = some (.inr (0, fs))) (hf : fs[15]? = some (some q)) (hd : decode cc pc = .ok (.getfield 262, 3)) (kk : Cp M w sh nL ι (pc + 3) lv (.ref (wad w q) :: st) σ b) : Cp M w sh nL ι pc lv (.ref (wad w k) :: st) σ b := Cp.getRN X clX1 hs 15 (by decide) wfX5_262 hf hd kk
theorem wfX5_274 : Cond.fieldLinkNest RX5 274 "LaughTax$Sheet" "length" "I" "LaughTax" ∈ TB := tb_t 172 (by decide +kernel) (by decide +kernel)
theorem gfX5_274 {M : MC} {w : WE} {sh : List Shp} {cc : ByteArray} {nL : Nat} {ret : Option FieldType} {d : Nat} {α : Type} {ι : α → Option Value × Mem} {pc : Nat} {lv : List (Option Value)} {st : List Value} {σ : Mem} {b : Option α} (X : Cx M w sh cc nL RX5 ret d) {k : Nat} {fs : List (Option Nat)} (hs : sh[k]? = some (.inr (1, fs))) (hf : fs[2]? = some none) (hd : decode cc pc = .ok (.getfield 274, 3)) (kk : Cp M w sh nL ι (pc + 3) lv (.int (σ k 2) :: st) σ b) : Cp M w sh nL ι pc lv (.ref (wad w k) :: st) σ b := Cp.getIN X clX2 hs 2 (by decide) wfX5_274 hf hd kk
theorem pfX5_274 {M : MC} {w : WE} {sh : List Shp} {cc : ByteArray} {nL : Nat} {ret : Option FieldType} {d : Nat} {α : Type} {ι : α → Option Value × Mem} {pc : Nat} {lv : List (Option Value)} {st : List Value} {σ : Mem} {b : Option α} (X : Cx M w sh cc nL RX5 ret d) {k : Nat} {fs : List (Option Nat)} (hs : sh[k]? = some (.inr (1, fs))) (hf : fs[2]? = some none) {v : Int32} (hd : decode cc pc = .ok (.putfield 274, 3)) (kk : Cp M w sh nL ι (pc + 3) lv st (up2 σ k 2 v) b) : Cp M w sh nL ι pc lv (.int v :: .ref (wad w k) :: st) σ b := Cp.putIN X clX2 hs 2 (by decide) wfX5_274 hf rfl (by decide +kernel) hd kk
theorem wfX5_281 : Cond.fieldLinkNest RX5 281 "LaughTax$Sheet" "bits" "I" "LaughTax" ∈ TB := tb_t 170 (by decide +kernel) (by decide +kernel)
theorem gfX5_281 {M : MC} {w : WE} {sh : List Shp} {cc : ByteArray} {nL : Nat} {ret : Option FieldType} {d : Nat} {α : Type} {ι : α → Option Value × Mem} {pc : Nat} {lv : List (Option Value)} {st : List Value} {σ : Mem} {b : Option α} (X : Cx M w sh cc nL RX5 ret d) {k : Nat} {fs : List (Option Nat)} (hs : sh[k]? = some (.inr (1, fs))) (hf : fs[1]? = some none) (hd : decode cc pc = .ok (.getfield 281, 3)) (kk : Cp M w sh nL ι (pc + 3) lv (.int (σ k 1) :: st) σ b) : Cp M w sh nL ι pc lv (.ref (wad w k) :: st) σ b := Cp.getIN X clX2 hs 1 (by decide) wfX5_281 hf hd kk
theorem pfX5_281 {M : MC} {w : WE} {sh : List Shp} {cc : ByteArray} {nL : Nat} {ret : Option FieldType} {d : Nat} {α : Type} {ι : α → Option Value × Mem} {pc : Nat} {lv : List (Option Value)} {st : List Value} {σ : Mem} {b : Option α} (X : Cx M w sh cc nL RX5 ret d) {k : Nat} {fs : List (Option Nat)} (hs : sh[k]? = some (.inr (1, fs))) (hf : fs[1]? = some none) {v : Int32} (hd : decode cc pc = .ok (.putfield 281, 3)) (kk : Cp M w sh nL ι (pc + 3) lv st (up2 σ k 1 v) b) : Cp M w sh nL ι pc lv (.int v :: .ref (wad w k) :: st) σ b := Cp.putIN X clX2 hs 1 (by decide) wfX5_281 hf rfl (by decide +kernel) hd kk
theorem wfX5_287 : Cond.fieldLinkNest RX5 287 "LaughTax$Sheet" "numbers" "[I" "LaughTax" ∈ TB := tb_t 168 (by decide +kernel) (by decide +kernel)
theorem gfX5_287 {M : MC} {w : WE} {sh : List Shp} {cc : ByteArray} {nL : Nat} {ret : Option FieldType} {d : Nat} {α : Type} {ι : α → Option Value × Mem} {pc : Nat} {lv : List (Option Value)} {st : List Value} {σ : Mem} {b : Option α} (X : Cx M w sh cc nL RX5 ret d) {k : Nat} {fs : List (Option Nat)} (q : Nat) (hs : sh[k]? = some (.inr (1, fs))) (hf : fs[0]? = some (some q)) (hd : decode cc pc = .ok (.getfield 287, 3)) (kk : Cp M w sh nL ι (pc + 3) lv (.ref (wad w q) :: st) σ b) : Cp M w sh nL ι pc lv (.ref (wad w k) :: st) σ b := Cp.getRN X clX2 hs 0 (by decide) wfX5_287 hf hd kk
theorem wfX5_299 : Cond.fieldLinkNest RX5 299 "LaughTax$Telling" "roundOf" "[I" "LaughTax" ∈ TB := tb_t 118 (by decide +kernel) (by decide +kernel)
theorem gfX5_299 {M : MC} {w : WE} {sh : List Shp} {cc : ByteArray} {nL : Nat} {ret : Option FieldType} {d : Nat} {α : Type} {ι : α → Option Value × Mem} {pc : Nat} {lv : List (Option Value)} {st : List Value} {σ : Mem} {b : Option α} (X : Cx M w sh cc nL RX5 ret d) {k : Nat} {fs : List (Option Nat)} (q : Nat) (hs : sh[k]? = some (.inr (3, fs))) (hf : fs[0]? = some (some q)) (hd : decode cc pc = .ok (.getfield 299, 3)) (kk : Cp M w sh nL ι (pc + 3) lv (.ref (wad w q) :: st) σ b) : Cp M w sh nL ι pc lv (.ref (wad w k) :: st) σ b := Cp.getRN X clX4 hs 0 (by decide) wfX5_299 hf hd kk
theorem wfX1_9 : Cond.fieldLink RX1 9 "LaughTax$Room" "kind" "[I" ∈ TB := tb_t 33 (by decide +kernel) (by decide +kernel)
theorem gfX1_9 {M : MC} {w : WE} {sh : List Shp} {cc : ByteArray} {nL : Nat} {ret : Option FieldType} {d : Nat} {α : Type} {ι : α → Option Value × Mem} {pc : Nat} {lv : List (Option Value)} {st : List Value} {σ : Mem} {b : Option α} (X : Cx M w sh cc nL RX1 ret d) {k : Nat} {fs : List (Option Nat)} (q : Nat) (hs : sh[k]? = some (.inr (0, fs))) (hf : fs[1]? = some (some q)) (hd : decode cc pc = .ok (.getfield 9, 3)) (kk : Cp M w sh nL ι (pc + 3) lv (.ref (wad w q) :: st) σ b) : Cp M w sh nL ι pc lv (.ref (wad w k) :: st) σ b := Cp.getR X clX1 hs 1 (by decide) wfX1_9 hf hd kk
theorem wfX1_15 : Cond.fieldLink RX1 15 "LaughTax$Room" "seat" "[I" ∈ TB := tb_t 36 (by decide +kernel) (by decide +kernel)
theorem gfX1_15 {M : MC} {w : WE} {sh : List Shp} {cc : ByteArray} {nL : Nat} {ret : Option FieldType} {d : Nat} {α : Type} {ι : α → Option Value × Mem} {pc : Nat} {lv : List (Option Value)} {st : List Value} {σ : Mem} {b : Option α} (X : Cx M w sh cc nL RX1 ret d) {k : Nat} {fs : List (Option Nat)} (q : Nat) (hs : sh[k]? = some (.inr (0, fs))) (hf : fs[2]? = some (some q)) (hd : decode cc pc = .ok (.getfield 15, 3)) (kk : Cp M w sh nL ι (pc + 3) lv (.ref (wad w q) :: st) σ b) : Cp M w sh nL ι pc lv (.ref (wad w k) :: st) σ b := Cp.getR X clX1 hs 2 (by decide) wfX1_15 hf hd kk
theorem wfX1_18 : Cond.fieldLink RX1 18 "LaughTax$Room" "taste" "[I" ∈ TB := tb_t 39 (by decide +kernel) (by decide +kernel)
theorem gfX1_18 {M : MC} {w : WE} {sh : List Shp} {cc : ByteArray} {nL : Nat} {ret : Option FieldType} {d : Nat} {α : Type} {ι : α → Option Value × Mem} {pc : Nat} {lv : List (Option Value)} {st : List Value} {σ : Mem} {b : Option α} (X : Cx M w sh cc nL RX1 ret d) {k : Nat} {fs : List (Option Nat)} (q : Nat) (hs : sh[k]? = some (.inr (0, fs))) (hf : fs[3]? = some (some q)) (hd : decode cc pc = .ok (.getfield 18, 3)) (kk : Cp M w sh nL ι (pc + 3) lv (.ref (wad w q) :: st) σ b) : Cp M w sh nL ι pc lv (.ref (wad w k) :: st) σ b := Cp.getR X clX1 hs 3 (by decide) wfX1_18 hf hd kk
theorem wfX1_21 : Cond.fieldLink RX1 21 "LaughTax$Room" "mood" "[I" ∈ TB := tb_t 42 (by decide +kernel) (by decide +kernel)
theorem gfX1_21 {M : MC} {w : WE} {sh : List Shp} {cc : ByteArray} {nL : Nat} {ret : Option FieldType} {d : Nat} {α : Type} {ι : α → Option Value × Mem} {pc : Nat} {lv : List (Option Value)} {st : List Value} {σ : Mem} {b : Option α} (X : Cx M w sh cc nL RX1 ret d) {k : Nat} {fs : List (Option Nat)} (q : Nat) (hs : sh[k]? = some (.inr (0, fs))) (hf : fs[4]? = some (some q)) (hd : decode cc pc = .ok (.getfield 21, 3)) (kk : Cp M w sh nL ι (pc + 3) lv (.ref (wad w q) :: st) σ b) : Cp M w sh nL ι pc lv (.ref (wad w k) :: st) σ b := Cp.getR X clX1 hs 4 (by decide) wfX1_21 hf hd kk
theorem wfX1_24 : Cond.fieldLink RX1 24 "LaughTax$Room" "purse" "[I" ∈ TB := tb_t 46 (by decide +kernel) (by decide +kernel)
theorem gfX1_24 {M : MC} {w : WE} {sh : List Shp} {cc : ByteArray} {nL : Nat} {ret : Option FieldType} {d : Nat} {α : Type} {ι : α → Option Value × Mem} {pc : Nat} {lv : List (Option Value)} {st : List Value} {σ : Mem} {b : Option α} (X : Cx M w sh cc nL RX1 ret d) {k : Nat} {fs : List (Option Nat)} (q : Nat) (hs : sh[k]? = some (.inr (0, fs))) (hf : fs[5]? = some (some q)) (hd : decode cc pc = .ok (.getfield 24, 3)) (kk : Cp M w sh nL ι (pc + 3) lv (.ref (wad w q) :: st) σ b) : Cp M w sh nL ι pc lv (.ref (wad w k) :: st) σ b := Cp.getR X clX1 hs 5 (by decide) wfX1_24 hf hd kk
theorem wfX1_27 : Cond.fieldLink RX1 27 "LaughTax$Room" "near" "[I" ∈ TB := tb_t 50 (by decide +kernel) (by decide +kernel)
theorem gfX1_27 {M : MC} {w : WE} {sh : List Shp} {cc : ByteArray} {nL : Nat} {ret : Option FieldType} {d : Nat} {α : Type} {ι : α → Option Value × Mem} {pc : Nat} {lv : List (Option Value)} {st : List Value} {σ : Mem} {b : Option α} (X : Cx M w sh cc nL RX1 ret d) {k : Nat} {fs : List (Option Nat)} (q : Nat) (hs : sh[k]? = some (.inr (0, fs))) (hf : fs[6]? = some (some q)) (hd : decode cc pc = .ok (.getfield 27, 3)) (kk : Cp M w sh nL ι (pc + 3) lv (.ref (wad w q) :: st) σ b) : Cp M w sh nL ι pc lv (.ref (wad w k) :: st) σ b := Cp.getR X clX1 hs 6 (by decide) wfX1_27 hf hd kk
theorem wfX1_30 : Cond.fieldLink RX1 30 "LaughTax$Room" "topics" "[I" ∈ TB := tb_t 56 (by decide +kernel) (by decide +kernel)
theorem gfX1_30 {M : MC} {w : WE} {sh : List Shp} {cc : ByteArray} {nL : Nat} {ret : Option FieldType} {d : Nat} {α : Type} {ι : α → Option Value × Mem} {pc : Nat} {lv : List (Option Value)} {st : List Value} {σ : Mem} {b : Option α} (X : Cx M w sh cc nL RX1 ret d) {k : Nat} {fs : List (Option Nat)} (q : Nat) (hs : sh[k]? = some (.inr (0, fs))) (hf : fs[8]? = some (some q)) (hd : decode cc pc = .ok (.getfield 30, 3)) (kk : Cp M w sh nL ι (pc + 3) lv (.ref (wad w q) :: st) σ b) : Cp M w sh nL ι pc lv (.ref (wad w k) :: st) σ b := Cp.getR X clX1 hs 8 (by decide) wfX1_30 hf hd kk
theorem wfX1_33 : Cond.fieldLink RX1 33 "LaughTax$Room" "fun" "[I" ∈ TB := tb_t 59 (by decide +kernel) (by decide +kernel)
theorem gfX1_33 {M : MC} {w : WE} {sh : List Shp} {cc : ByteArray} {nL : Nat} {ret : Option FieldType} {d : Nat} {α : Type} {ι : α → Option Value × Mem} {pc : Nat} {lv : List (Option Value)} {st : List Value} {σ : Mem} {b : Option α} (X : Cx M w sh cc nL RX1 ret d) {k : Nat} {fs : List (Option Nat)} (q : Nat) (hs : sh[k]? = some (.inr (0, fs))) (hf : fs[9]? = some (some q)) (hd : decode cc pc = .ok (.getfield 33, 3)) (kk : Cp M w sh nL ι (pc + 3) lv (.ref (wad w q) :: st) σ b) : Cp M w sh nL ι pc lv (.ref (wad w k) :: st) σ b := Cp.getR X clX1 hs 9 (by decide) wfX1_33 hf hd kk
theorem wfX1_36 : Cond.fieldLink RX1 36 "LaughTax$Room" "rate" "I" ∈ TB := tb_t 62 (by decide +kernel) (by decide +kernel)
theorem gfX1_36 {M : MC} {w : WE} {sh : List Shp} {cc : ByteArray} {nL : Nat} {ret : Option FieldType} {d : Nat} {α : Type} {ι : α → Option Value × Mem} {pc : Nat} {lv : List (Option Value)} {st : List Value} {σ : Mem} {b : Option α} (X : Cx M w sh cc nL RX1 ret d) {k : Nat} {fs : List (Option Nat)} (hs : sh[k]? = some (.inr (0, fs))) (hf : fs[10]? = some none) (hd : decode cc pc = .ok (.getfield 36, 3)) (kk : Cp M w sh nL ι (pc + 3) lv (.int (σ k 10) :: st) σ b) : Cp M w sh nL ι pc lv (.ref (wad w k) :: st) σ b := Cp.getI X clX1 hs 10 (by decide) wfX1_36 hf hd kk
theorem pfX1_36 {M : MC} {w : WE} {sh : List Shp} {cc : ByteArray} {nL : Nat} {ret : Option FieldType} {d : Nat} {α : Type} {ι : α → Option Value × Mem} {pc : Nat} {lv : List (Option Value)} {st : List Value} {σ : Mem} {b : Option α} (X : Cx M w sh cc nL RX1 ret d) {k : Nat} {fs : List (Option Nat)} (hs : sh[k]? = some (.inr (0, fs))) (hf : fs[10]? = some none) {v : Int32} (hd : decode cc pc = .ok (.putfield 36, 3)) (kk : Cp M w sh nL ι (pc + 3) lv st (up2 σ k 10 v) b) : Cp M w sh nL ι pc lv (.int v :: .ref (wad w k) :: st) σ b := Cp.putI X clX1 hs 10 (by decide) wfX1_36 hf rfl (by decide +kernel) hd kk
theorem wfX1_40 : Cond.fieldLink RX1 40 "LaughTax$Room" "reach" "I" ∈ TB := tb_t 65 (by decide +kernel) (by decide +kernel)
theorem gfX1_40 {M : MC} {w : WE} {sh : List Shp} {cc : ByteArray} {nL : Nat} {ret : Option FieldType} {d : Nat} {α : Type} {ι : α → Option Value × Mem} {pc : Nat} {lv : List (Option Value)} {st : List Value} {σ : Mem} {b : Option α} (X : Cx M w sh cc nL RX1 ret d) {k : Nat} {fs : List (Option Nat)} (hs : sh[k]? = some (.inr (0, fs))) (hf : fs[11]? = some none) (hd : decode cc pc = .ok (.getfield 40, 3)) (kk : Cp M w sh nL ι (pc + 3) lv (.int (σ k 11) :: st) σ b) : Cp M w sh nL ι pc lv (.ref (wad w k) :: st) σ b := Cp.getI X clX1 hs 11 (by decide) wfX1_40 hf hd kk
theorem pfX1_40 {M : MC} {w : WE} {sh : List Shp} {cc : ByteArray} {nL : Nat} {ret : Option FieldType} {d : Nat} {α : Type} {ι : α → Option Value × Mem} {pc : Nat} {lv : List (Option Value)} {st : List Value} {σ : Mem} {b : Option α} (X : Cx M w sh cc nL RX1 ret d) {k : Nat} {fs : List (Option Nat)} (hs : sh[k]? = some (.inr (0, fs))) (hf : fs[11]? = some none) {v : Int32} (hd : decode cc pc = .ok (.putfield 40, 3)) (kk : Cp M w sh nL ι (pc + 3) lv st (up2 σ k 11 v) b) : Cp M w sh nL ι pc lv (.int v :: .ref (wad w k) :: st) σ b := Cp.putI X clX1 hs 11 (by decide) wfX1_40 hf rfl (by decide +kernel) hd kk
theorem wfX1_43 : Cond.fieldLink RX1 43 "LaughTax$Room" "z" "I" ∈ TB := tb_t 73 (by decide +kernel) (by decide +kernel)
theorem gfX1_43 {M : MC} {w : WE} {sh : List Shp} {cc : ByteArray} {nL : Nat} {ret : Option FieldType} {d : Nat} {α : Type} {ι : α → Option Value × Mem} {pc : Nat} {lv : List (Option Value)} {st : List Value} {σ : Mem} {b : Option α} (X : Cx M w sh cc nL RX1 ret d) {k : Nat} {fs : List (Option Nat)} (hs : sh[k]? = some (.inr (0, fs))) (hf : fs[14]? = some none) (hd : decode cc pc = .ok (.getfield 43, 3)) (kk : Cp M w sh nL ι (pc + 3) lv (.int (σ k 14) :: st) σ b) : Cp M w sh nL ι pc lv (.ref (wad w k) :: st) σ b := Cp.getI X clX1 hs 14 (by decide) wfX1_43 hf hd kk
theorem pfX1_43 {M : MC} {w : WE} {sh : List Shp} {cc : ByteArray} {nL : Nat} {ret : Option FieldType} {d : Nat} {α : Type} {ι : α → Option Value × Mem} {pc : Nat} {lv : List (Option Value)} {st : List Value} {σ : Mem} {b : Option α} (X : Cx M w sh cc nL RX1 ret d) {k : Nat} {fs : List (Option Nat)} (hs : sh[k]? = some (.inr (0, fs))) (hf : fs[14]? = some none) {v : Int32} (hd : decode cc pc = .ok (.putfield 43, 3)) (kk : Cp M w sh nL ι (pc + 3) lv st (up2 σ k 14 v) b) : Cp M w sh nL ι pc lv (.int v :: .ref (wad w k) :: st) σ b := Cp.putI X clX1 hs 14 (by decide) wfX1_43 hf rfl (by decide +kernel) hd kk
theorem wfX1_46 : Cond.fieldLink RX1 46 "LaughTax$Room" "spots" "[I" ∈ TB := tb_t 75 (by decide +kernel) (by decide +kernel)
theorem gfX1_46 {M : MC} {w : WE} {sh : List Shp} {cc : ByteArray} {nL : Nat} {ret : Option FieldType} {d : Nat} {α : Type} {ι : α → Option Value × Mem} {pc : Nat} {lv : List (Option Value)} {st : List Value} {σ : Mem} {b : Option α} (X : Cx M w sh cc nL RX1 ret d) {k : Nat} {fs : List (Option Nat)} (q : Nat) (hs : sh[k]? = some (.inr (0, fs))) (hf : fs[15]? = some (some q)) (hd : decode cc pc = .ok (.getfield 46, 3)) (kk : Cp M w sh nL ι (pc + 3) lv (.ref (wad w q) :: st) σ b) : Cp M w sh nL ι pc lv (.ref (wad w k) :: st) σ b := Cp.getR X clX1 hs 15 (by decide) wfX1_46 hf hd kk
theorem wfX1_49 : Cond.fieldLink RX1 49 "LaughTax$Room" "people" "I" ∈ TB := tb_t 29 (by decide +kernel) (by decide +kernel)
theorem gfX1_49 {M : MC} {w : WE} {sh : List Shp} {cc : ByteArray} {nL : Nat} {ret : Option FieldType} {d : Nat} {α : Type} {ι : α → Option Value × Mem} {pc : Nat} {lv : List (Option Value)} {st : List Value} {σ : Mem} {b : Option α} (X : Cx M w sh cc nL RX1 ret d) {k : Nat} {fs : List (Option Nat)} (hs : sh[k]? = some (.inr (0, fs))) (hf : fs[0]? = some none) (hd : decode cc pc = .ok (.getfield 49, 3)) (kk : Cp M w sh nL ι (pc + 3) lv (.int (σ k 0) :: st) σ b) : Cp M w sh nL ι pc lv (.ref (wad w k) :: st) σ b := Cp.getI X clX1 hs 0 (by decide) wfX1_49 hf hd kk
theorem pfX1_49 {M : MC} {w : WE} {sh : List Shp} {cc : ByteArray} {nL : Nat} {ret : Option FieldType} {d : Nat} {α : Type} {ι : α → Option Value × Mem} {pc : Nat} {lv : List (Option Value)} {st : List Value} {σ : Mem} {b : Option α} (X : Cx M w sh cc nL RX1 ret d) {k : Nat} {fs : List (Option Nat)} (hs : sh[k]? = some (.inr (0, fs))) (hf : fs[0]? = some none) {v : Int32} (hd : decode cc pc = .ok (.putfield 49, 3)) (kk : Cp M w sh nL ι (pc + 3) lv st (up2 σ k 0 v) b) : Cp M w sh nL ι pc lv (.int v :: .ref (wad w k) :: st) σ b := Cp.putI X clX1 hs 0 (by decide) wfX1_49 hf rfl (by decide +kernel) hd kk
theorem wfX1_58 : Cond.fieldLink RX1 58 "LaughTax$Room" "jokes" "I" ∈ TB := tb_t 53 (by decide +kernel) (by decide +kernel)
theorem gfX1_58 {M : MC} {w : WE} {sh : List Shp} {cc : ByteArray} {nL : Nat} {ret : Option FieldType} {d : Nat} {α : Type} {ι : α → Option Value × Mem} {pc : Nat} {lv : List (Option Value)} {st : List Value} {σ : Mem} {b : Option α} (X : Cx M w sh cc nL RX1 ret d) {k : Nat} {fs : List (Option Nat)} (hs : sh[k]? = some (.inr (0, fs))) (hf : fs[7]? = some none) (hd : decode cc pc = .ok (.getfield 58, 3)) (kk : Cp M w sh nL ι (pc + 3) lv (.int (σ k 7) :: st) σ b) : Cp M w sh nL ι pc lv (.ref (wad w k) :: st) σ b := Cp.getI X clX1 hs 7 (by decide) wfX1_58 hf hd kk
theorem pfX1_58 {M : MC} {w : WE} {sh : List Shp} {cc : ByteArray} {nL : Nat} {ret : Option FieldType} {d : Nat} {α : Type} {ι : α → Option Value × Mem} {pc : Nat} {lv : List (Option Value)} {st : List Value} {σ : Mem} {b : Option α} (X : Cx M w sh cc nL RX1 ret d) {k : Nat} {fs : List (Option Nat)} (hs : sh[k]? = some (.inr (0, fs))) (hf : fs[7]? = some none) {v : Int32} (hd : decode cc pc = .ok (.putfield 58, 3)) (kk : Cp M w sh nL ι (pc + 3) lv st (up2 σ k 7 v) b) : Cp M w sh nL ι pc lv (.int v :: .ref (wad w k) :: st) σ b := Cp.putI X clX1 hs 7 (by decide) wfX1_58 hf rfl (by decide +kernel) hd kk
theorem wfX1_61 : Cond.fieldLink RX1 61 "LaughTax$Room" "treasury" "I" ∈ TB := tb_t 67 (by decide +kernel) (by decide +kernel)
theorem gfX1_61 {M : MC} {w : WE} {sh : List Shp} {cc : ByteArray} {nL : Nat} {ret : Option FieldType} {d : Nat} {α : Type} {ι : α → Option Value × Mem} {pc : Nat} {lv : List (Option Value)} {st : List Value} {σ : Mem} {b : Option α} (X : Cx M w sh cc nL RX1 ret d) {k : Nat} {fs : List (Option Nat)} (hs : sh[k]? = some (.inr (0, fs))) (hf : fs[12]? = some none) (hd : decode cc pc = .ok (.getfield 61, 3)) (kk : Cp M w sh nL ι (pc + 3) lv (.int (σ k 12) :: st) σ b) : Cp M w sh nL ι pc lv (.ref (wad w k) :: st) σ b := Cp.getI X clX1 hs 12 (by decide) wfX1_61 hf hd kk
theorem pfX1_61 {M : MC} {w : WE} {sh : List Shp} {cc : ByteArray} {nL : Nat} {ret : Option FieldType} {d : Nat} {α : Type} {ι : α → Option Value × Mem} {pc : Nat} {lv : List (Option Value)} {st : List Value} {σ : Mem} {b : Option α} (X : Cx M w sh cc nL RX1 ret d) {k : Nat} {fs : List (Option Nat)} (hs : sh[k]? = some (.inr (0, fs))) (hf : fs[12]? = some none) {v : Int32} (hd : decode cc pc = .ok (.putfield 61, 3)) (kk : Cp M w sh nL ι (pc + 3) lv st (up2 σ k 12 v) b) : Cp M w sh nL ι pc lv (.int v :: .ref (wad w k) :: st) σ b := Cp.putI X clX1 hs 12 (by decide) wfX1_61 hf rfl (by decide +kernel) hd kk
theorem wfX1_64 : Cond.fieldLink RX1 64 "LaughTax$Room" "told" "I" ∈ TB := tb_t 70 (by decide +kernel) (by decide +kernel)
theorem gfX1_64 {M : MC} {w : WE} {sh : List Shp} {cc : ByteArray} {nL : Nat} {ret : Option FieldType} {d : Nat} {α : Type} {ι : α → Option Value × Mem} {pc : Nat} {lv : List (Option Value)} {st : List Value} {σ : Mem} {b : Option α} (X : Cx M w sh cc nL RX1 ret d) {k : Nat} {fs : List (Option Nat)} (hs : sh[k]? = some (.inr (0, fs))) (hf : fs[13]? = some none) (hd : decode cc pc = .ok (.getfield 64, 3)) (kk : Cp M w sh nL ι (pc + 3) lv (.int (σ k 13) :: st) σ b) : Cp M w sh nL ι pc lv (.ref (wad w k) :: st) σ b := Cp.getI X clX1 hs 13 (by decide) wfX1_64 hf hd kk
theorem pfX1_64 {M : MC} {w : WE} {sh : List Shp} {cc : ByteArray} {nL : Nat} {ret : Option FieldType} {d : Nat} {α : Type} {ι : α → Option Value × Mem} {pc : Nat} {lv : List (Option Value)} {st : List Value} {σ : Mem} {b : Option α} (X : Cx M w sh cc nL RX1 ret d) {k : Nat} {fs : List (Option Nat)} (hs : sh[k]? = some (.inr (0, fs))) (hf : fs[13]? = some none) {v : Int32} (hd : decode cc pc = .ok (.putfield 64, 3)) (kk : Cp M w sh nL ι (pc + 3) lv st (up2 σ k 13 v) b) : Cp M w sh nL ι pc lv (.int v :: .ref (wad w k) :: st) σ b := Cp.putI X clX1 hs 13 (by decide) wfX1_64 hf rfl (by decide +kernel) hd kk
theorem wfX2_9 : Cond.fieldLink RX2 9 "LaughTax$Sheet" "numbers" "[I" ∈ TB := tb_t 167 (by decide +kernel) (by decide +kernel)
theorem gfX2_9 {M : MC} {w : WE} {sh : List Shp} {cc : ByteArray} {nL : Nat} {ret : Option FieldType} {d : Nat} {α : Type} {ι : α → Option Value × Mem} {pc : Nat} {lv : List (Option Value)} {st : List Value} {σ : Mem} {b : Option α} (X : Cx M w sh cc nL RX2 ret d) {k : Nat} {fs : List (Option Nat)} (q : Nat) (hs : sh[k]? = some (.inr (1, fs))) (hf : fs[0]? = some (some q)) (hd : decode cc pc = .ok (.getfield 9, 3)) (kk : Cp M w sh nL ι (pc + 3) lv (.ref (wad w q) :: st) σ b) : Cp M w sh nL ι pc lv (.ref (wad w k) :: st) σ b := Cp.getR X clX2 hs 0 (by decide) wfX2_9 hf hd kk
theorem wfX2_15 : Cond.fieldLink RX2 15 "LaughTax$Sheet" "bits" "I" ∈ TB := tb_t 169 (by decide +kernel) (by decide +kernel)
theorem gfX2_15 {M : MC} {w : WE} {sh : List Shp} {cc : ByteArray} {nL : Nat} {ret : Option FieldType} {d : Nat} {α : Type} {ι : α → Option Value × Mem} {pc : Nat} {lv : List (Option Value)} {st : List Value} {σ : Mem} {b : Option α} (X : Cx M w sh cc nL RX2 ret d) {k : Nat} {fs : List (Option Nat)} (hs : sh[k]? = some (.inr (1, fs))) (hf : fs[1]? = some none) (hd : decode cc pc = .ok (.getfield 15, 3)) (kk : Cp M w sh nL ι (pc + 3) lv (.int (σ k 1) :: st) σ b) : Cp M w sh nL ι pc lv (.ref (wad w k) :: st) σ b := Cp.getI X clX2 hs 1 (by decide) wfX2_15 hf hd kk
theorem pfX2_15 {M : MC} {w : WE} {sh : List Shp} {cc : ByteArray} {nL : Nat} {ret : Option FieldType} {d : Nat} {α : Type} {ι : α → Option Value × Mem} {pc : Nat} {lv : List (Option Value)} {st : List Value} {σ : Mem} {b : Option α} (X : Cx M w sh cc nL RX2 ret d) {k : Nat} {fs : List (Option Nat)} (hs : sh[k]? = some (.inr (1, fs))) (hf : fs[1]? = some none) {v : Int32} (hd : decode cc pc = .ok (.putfield 15, 3)) (kk : Cp M w sh nL ι (pc + 3) lv st (up2 σ k 1 v) b) : Cp M w sh nL ι pc lv (.int v :: .ref (wad w k) :: st) σ b := Cp.putI X clX2 hs 1 (by decide) wfX2_15 hf rfl (by decide +kernel) hd kk
theorem wfX2_19 : Cond.fieldLink RX2 19 "LaughTax$Sheet" "length" "I" ∈ TB := tb_t 171 (by decide +kernel) (by decide +kernel)
theorem gfX2_19 {M : MC} {w : WE} {sh : List Shp} {cc : ByteArray} {nL : Nat} {ret : Option FieldType} {d : Nat} {α : Type} {ι : α → Option Value × Mem} {pc : Nat} {lv : List (Option Value)} {st : List Value} {σ : Mem} {b : Option α} (X : Cx M w sh cc nL RX2 ret d) {k : Nat} {fs : List (Option Nat)} (hs : sh[k]? = some (.inr (1, fs))) (hf : fs[2]? = some none) (hd : decode cc pc = .ok (.getfield 19, 3)) (kk : Cp M w sh nL ι (pc + 3) lv (.int (σ k 2) :: st) σ b) : Cp M w sh nL ι pc lv (.ref (wad w k) :: st) σ b := Cp.getI X clX2 hs 2 (by decide) wfX2_19 hf hd kk
theorem pfX2_19 {M : MC} {w : WE} {sh : List Shp} {cc : ByteArray} {nL : Nat} {ret : Option FieldType} {d : Nat} {α : Type} {ι : α → Option Value × Mem} {pc : Nat} {lv : List (Option Value)} {st : List Value} {σ : Mem} {b : Option α} (X : Cx M w sh cc nL RX2 ret d) {k : Nat} {fs : List (Option Nat)} (hs : sh[k]? = some (.inr (1, fs))) (hf : fs[2]? = some none) {v : Int32} (hd : decode cc pc = .ok (.putfield 19, 3)) (kk : Cp M w sh nL ι (pc + 3) lv st (up2 σ k 2 v) b) : Cp M w sh nL ι pc lv (.int v :: .ref (wad w k) :: st) σ b := Cp.putI X clX2 hs 2 (by decide) wfX2_19 hf rfl (by decide +kernel) hd kk
theorem wfX3_9 : Cond.fieldLink RX3 9 "LaughTax$Tape" "bytes" "[B" ∈ TB := tb_t 136 (by decide +kernel) (by decide +kernel)
theorem gfX3_9 {M : MC} {w : WE} {sh : List Shp} {cc : ByteArray} {nL : Nat} {ret : Option FieldType} {d : Nat} {α : Type} {ι : α → Option Value × Mem} {pc : Nat} {lv : List (Option Value)} {st : List Value} {σ : Mem} {b : Option α} (X : Cx M w sh cc nL RX3 ret d) {k : Nat} {fs : List (Option Nat)} (q : Nat) (hs : sh[k]? = some (.inr (2, fs))) (hf : fs[0]? = some (some q)) (hd : decode cc pc = .ok (.getfield 9, 3)) (kk : Cp M w sh nL ι (pc + 3) lv (.ref (wad w q) :: st) σ b) : Cp M w sh nL ι pc lv (.ref (wad w k) :: st) σ b := Cp.getR X clX3 hs 0 (by decide) wfX3_9 hf hd kk
theorem wfX3_15 : Cond.fieldLink RX3 15 "LaughTax$Tape" "length" "I" ∈ TB := tb_t 137 (by decide +kernel) (by decide +kernel)
theorem gfX3_15 {M : MC} {w : WE} {sh : List Shp} {cc : ByteArray} {nL : Nat} {ret : Option FieldType} {d : Nat} {α : Type} {ι : α → Option Value × Mem} {pc : Nat} {lv : List (Option Value)} {st : List Value} {σ : Mem} {b : Option α} (X : Cx M w sh cc nL RX3 ret d) {k : Nat} {fs : List (Option Nat)} (hs : sh[k]? = some (.inr (2, fs))) (hf : fs[1]? = some none) (hd : decode cc pc = .ok (.getfield 15, 3)) (kk : Cp M w sh nL ι (pc + 3) lv (.int (σ k 1) :: st) σ b) : Cp M w sh nL ι pc lv (.ref (wad w k) :: st) σ b := Cp.getI X clX3 hs 1 (by decide) wfX3_15 hf hd kk
theorem pfX3_15 {M : MC} {w : WE} {sh : List Shp} {cc : ByteArray} {nL : Nat} {ret : Option FieldType} {d : Nat} {α : Type} {ι : α → Option Value × Mem} {pc : Nat} {lv : List (Option Value)} {st : List Value} {σ : Mem} {b : Option α} (X : Cx M w sh cc nL RX3 ret d) {k : Nat} {fs : List (Option Nat)} (hs : sh[k]? = some (.inr (2, fs))) (hf : fs[1]? = some none) {v : Int32} (hd : decode cc pc = .ok (.putfield 15, 3)) (kk : Cp M w sh nL ι (pc + 3) lv st (up2 σ k 1 v) b) : Cp M w sh nL ι pc lv (.int v :: .ref (wad w k) :: st) σ b := Cp.putI X clX3 hs 1 (by decide) wfX3_15 hf rfl (by decide +kernel) hd kk
theorem wfX3_19 : Cond.fieldLink RX3 19 "LaughTax$Tape" "behind" "I" ∈ TB := tb_t 141 (by decide +kernel) (by decide +kernel)
theorem gfX3_19 {M : MC} {w : WE} {sh : List Shp} {cc : ByteArray} {nL : Nat} {ret : Option FieldType} {d : Nat} {α : Type} {ι : α → Option Value × Mem} {pc : Nat} {lv : List (Option Value)} {st : List Value} {σ : Mem} {b : Option α} (X : Cx M w sh cc nL RX3 ret d) {k : Nat} {fs : List (Option Nat)} (hs : sh[k]? = some (.inr (2, fs))) (hf : fs[4]? = some none) (hd : decode cc pc = .ok (.getfield 19, 3)) (kk : Cp M w sh nL ι (pc + 3) lv (.int (σ k 4) :: st) σ b) : Cp M w sh nL ι pc lv (.ref (wad w k) :: st) σ b := Cp.getI X clX3 hs 4 (by decide) wfX3_19 hf hd kk
theorem pfX3_19 {M : MC} {w : WE} {sh : List Shp} {cc : ByteArray} {nL : Nat} {ret : Option FieldType} {d : Nat} {α : Type} {ι : α → Option Value × Mem} {pc : Nat} {lv : List (Option Value)} {st : List Value} {σ : Mem} {b : Option α} (X : Cx M w sh cc nL RX3 ret d) {k : Nat} {fs : List (Option Nat)} (hs : sh[k]? = some (.inr (2, fs))) (hf : fs[4]? = some none) {v : Int32} (hd : decode cc pc = .ok (.putfield 19, 3)) (kk : Cp M w sh nL ι (pc + 3) lv st (up2 σ k 4 v) b) : Cp M w sh nL ι pc lv (.int v :: .ref (wad w k) :: st) σ b := Cp.putI X clX3 hs 4 (by decide) wfX3_19 hf rfl (by decide +kernel) hd kk
theorem wfX3_29 : Cond.fieldLink RX3 29 "LaughTax$Tape" "token" "I" ∈ TB := tb_t 139 (by decide +kernel) (by decide +kernel)
theorem gfX3_29 {M : MC} {w : WE} {sh : List Shp} {cc : ByteArray} {nL : Nat} {ret : Option FieldType} {d : Nat} {α : Type} {ι : α → Option Value × Mem} {pc : Nat} {lv : List (Option Value)} {st : List Value} {σ : Mem} {b : Option α} (X : Cx M w sh cc nL RX3 ret d) {k : Nat} {fs : List (Option Nat)} (hs : sh[k]? = some (.inr (2, fs))) (hf : fs[2]? = some none) (hd : decode cc pc = .ok (.getfield 29, 3)) (kk : Cp M w sh nL ι (pc + 3) lv (.int (σ k 2) :: st) σ b) : Cp M w sh nL ι pc lv (.ref (wad w k) :: st) σ b := Cp.getI X clX3 hs 2 (by decide) wfX3_29 hf hd kk
theorem pfX3_29 {M : MC} {w : WE} {sh : List Shp} {cc : ByteArray} {nL : Nat} {ret : Option FieldType} {d : Nat} {α : Type} {ι : α → Option Value × Mem} {pc : Nat} {lv : List (Option Value)} {st : List Value} {σ : Mem} {b : Option α} (X : Cx M w sh cc nL RX3 ret d) {k : Nat} {fs : List (Option Nat)} (hs : sh[k]? = some (.inr (2, fs))) (hf : fs[2]? = some none) {v : Int32} (hd : decode cc pc = .ok (.putfield 29, 3)) (kk : Cp M w sh nL ι (pc + 3) lv st (up2 σ k 2 v) b) : Cp M w sh nL ι pc lv (.int v :: .ref (wad w k) :: st) σ b := Cp.putI X clX3 hs 2 (by decide) wfX3_29 hf rfl (by decide +kernel) hd kk
theorem wfX3_32 : Cond.fieldLink RX3 32 "LaughTax$Tape" "start" "I" ∈ TB := tb_t 140 (by decide +kernel) (by decide +kernel)
theorem gfX3_32 {M : MC} {w : WE} {sh : List Shp} {cc : ByteArray} {nL : Nat} {ret : Option FieldType} {d : Nat} {α : Type} {ι : α → Option Value × Mem} {pc : Nat} {lv : List (Option Value)} {st : List Value} {σ : Mem} {b : Option α} (X : Cx M w sh cc nL RX3 ret d) {k : Nat} {fs : List (Option Nat)} (hs : sh[k]? = some (.inr (2, fs))) (hf : fs[3]? = some none) (hd : decode cc pc = .ok (.getfield 32, 3)) (kk : Cp M w sh nL ι (pc + 3) lv (.int (σ k 3) :: st) σ b) : Cp M w sh nL ι pc lv (.ref (wad w k) :: st) σ b := Cp.getI X clX3 hs 3 (by decide) wfX3_32 hf hd kk
theorem pfX3_32 {M : MC} {w : WE} {sh : List Shp} {cc : ByteArray} {nL : Nat} {ret : Option FieldType} {d : Nat} {α : Type} {ι : α → Option Value × Mem} {pc : Nat} {lv : List (Option Value)} {st : List Value} {σ : Mem} {b : Option α} (X : Cx M w sh cc nL RX3 ret d) {k : Nat} {fs : List (Option Nat)} (hs : sh[k]? = some (.inr (2, fs))) (hf : fs[3]? = some none) {v : Int32} (hd : decode cc pc = .ok (.putfield 32, 3)) (kk : Cp M w sh nL ι (pc + 3) lv st (up2 σ k 3 v) b) : Cp M w sh nL ι pc lv (.int v :: .ref (wad w k) :: st) σ b := Cp.putI X clX3 hs 3 (by decide) wfX3_32 hf rfl (by decide +kernel) hd kk
theorem wfX3_62 : Cond.fieldLinkNest RX3 62 "LaughTax$Room" "people" "I" "LaughTax" ∈ TB := tb_t 32 (by decide +kernel) (by decide +kernel)
theorem gfX3_62 {M : MC} {w : WE} {sh : List Shp} {cc : ByteArray} {nL : Nat} {ret : Option FieldType} {d : Nat} {α : Type} {ι : α → Option Value × Mem} {pc : Nat} {lv : List (Option Value)} {st : List Value} {σ : Mem} {b : Option α} (X : Cx M w sh cc nL RX3 ret d) {k : Nat} {fs : List (Option Nat)} (hs : sh[k]? = some (.inr (0, fs))) (hf : fs[0]? = some none) (hd : decode cc pc = .ok (.getfield 62, 3)) (kk : Cp M w sh nL ι (pc + 3) lv (.int (σ k 0) :: st) σ b) : Cp M w sh nL ι pc lv (.ref (wad w k) :: st) σ b := Cp.getIN X clX1 hs 0 (by decide) wfX3_62 hf hd kk
theorem pfX3_62 {M : MC} {w : WE} {sh : List Shp} {cc : ByteArray} {nL : Nat} {ret : Option FieldType} {d : Nat} {α : Type} {ι : α → Option Value × Mem} {pc : Nat} {lv : List (Option Value)} {st : List Value} {σ : Mem} {b : Option α} (X : Cx M w sh cc nL RX3 ret d) {k : Nat} {fs : List (Option Nat)} (hs : sh[k]? = some (.inr (0, fs))) (hf : fs[0]? = some none) {v : Int32} (hd : decode cc pc = .ok (.putfield 62, 3)) (kk : Cp M w sh nL ι (pc + 3) lv st (up2 σ k 0 v) b) : Cp M w sh nL ι pc lv (.int v :: .ref (wad w k) :: st) σ b := Cp.putIN X clX1 hs 0 (by decide) wfX3_62 hf rfl (by decide +kernel) hd kk
theorem wfX3_73 : Cond.fieldLinkNest RX3 73 "LaughTax$Room" "seat" "[I" "LaughTax" ∈ TB := tb_t 38 (by decide +kernel) (by decide +kernel)
theorem gfX3_73 {M : MC} {w : WE} {sh : List Shp} {cc : ByteArray} {nL : Nat} {ret : Option FieldType} {d : Nat} {α : Type} {ι : α → Option Value × Mem} {pc : Nat} {lv : List (Option Value)} {st : List Value} {σ : Mem} {b : Option α} (X : Cx M w sh cc nL RX3 ret d) {k : Nat} {fs : List (Option Nat)} (q : Nat) (hs : sh[k]? = some (.inr (0, fs))) (hf : fs[2]? = some (some q)) (hd : decode cc pc = .ok (.getfield 73, 3)) (kk : Cp M w sh nL ι (pc + 3) lv (.ref (wad w q) :: st) σ b) : Cp M w sh nL ι pc lv (.ref (wad w k) :: st) σ b := Cp.getRN X clX1 hs 2 (by decide) wfX3_73 hf hd kk
theorem wfX3_81 : Cond.fieldLink RX3 81 "LaughTax$Tape" "taken" "I" ∈ TB := tb_t 143 (by decide +kernel) (by decide +kernel)
theorem gfX3_81 {M : MC} {w : WE} {sh : List Shp} {cc : ByteArray} {nL : Nat} {ret : Option FieldType} {d : Nat} {α : Type} {ι : α → Option Value × Mem} {pc : Nat} {lv : List (Option Value)} {st : List Value} {σ : Mem} {b : Option α} (X : Cx M w sh cc nL RX3 ret d) {k : Nat} {fs : List (Option Nat)} (hs : sh[k]? = some (.inr (2, fs))) (hf : fs[6]? = some none) (hd : decode cc pc = .ok (.getfield 81, 3)) (kk : Cp M w sh nL ι (pc + 3) lv (.int (σ k 6) :: st) σ b) : Cp M w sh nL ι pc lv (.ref (wad w k) :: st) σ b := Cp.getI X clX3 hs 6 (by decide) wfX3_81 hf hd kk
theorem pfX3_81 {M : MC} {w : WE} {sh : List Shp} {cc : ByteArray} {nL : Nat} {ret : Option FieldType} {d : Nat} {α : Type} {ι : α → Option Value × Mem} {pc : Nat} {lv : List (Option Value)} {st : List Value} {σ : Mem} {b : Option α} (X : Cx M w sh cc nL RX3 ret d) {k : Nat} {fs : List (Option Nat)} (hs : sh[k]? = some (.inr (2, fs))) (hf : fs[6]? = some none) {v : Int32} (hd : decode cc pc = .ok (.putfield 81, 3)) (kk : Cp M w sh nL ι (pc + 3) lv st (up2 σ k 6 v) b) : Cp M w sh nL ι pc lv (.int v :: .ref (wad w k) :: st) σ b := Cp.putI X clX3 hs 6 (by decide) wfX3_81 hf rfl (by decide +kernel) hd kk
theorem wfX3_90 : Cond.fieldLinkNest RX3 90 "LaughTax$Room" "taste" "[I" "LaughTax" ∈ TB := tb_t 41 (by decide +kernel) (by decide +kernel)
theorem gfX3_90 {M : MC} {w : WE} {sh : List Shp} {cc : ByteArray} {nL : Nat} {ret : Option FieldType} {d : Nat} {α : Type} {ι : α → Option Value × Mem} {pc : Nat} {lv : List (Option Value)} {st : List Value} {σ : Mem} {b : Option α} (X : Cx M w sh cc nL RX3 ret d) {k : Nat} {fs : List (Option Nat)} (q : Nat) (hs : sh[k]? = some (.inr (0, fs))) (hf : fs[3]? = some (some q)) (hd : decode cc pc = .ok (.getfield 90, 3)) (kk : Cp M w sh nL ι (pc + 3) lv (.ref (wad w q) :: st) σ b) : Cp M w sh nL ι pc lv (.ref (wad w k) :: st) σ b := Cp.getRN X clX1 hs 3 (by decide) wfX3_90 hf hd kk
theorem wfX3_94 : Cond.fieldLinkNest RX3 94 "LaughTax$Room" "mood" "[I" "LaughTax" ∈ TB := tb_t 45 (by decide +kernel) (by decide +kernel)
theorem gfX3_94 {M : MC} {w : WE} {sh : List Shp} {cc : ByteArray} {nL : Nat} {ret : Option FieldType} {d : Nat} {α : Type} {ι : α → Option Value × Mem} {pc : Nat} {lv : List (Option Value)} {st : List Value} {σ : Mem} {b : Option α} (X : Cx M w sh cc nL RX3 ret d) {k : Nat} {fs : List (Option Nat)} (q : Nat) (hs : sh[k]? = some (.inr (0, fs))) (hf : fs[4]? = some (some q)) (hd : decode cc pc = .ok (.getfield 94, 3)) (kk : Cp M w sh nL ι (pc + 3) lv (.ref (wad w q) :: st) σ b) : Cp M w sh nL ι pc lv (.ref (wad w k) :: st) σ b := Cp.getRN X clX1 hs 4 (by decide) wfX3_94 hf hd kk
theorem wfX3_98 : Cond.fieldLinkNest RX3 98 "LaughTax$Room" "purse" "[I" "LaughTax" ∈ TB := tb_t 49 (by decide +kernel) (by decide +kernel)
theorem gfX3_98 {M : MC} {w : WE} {sh : List Shp} {cc : ByteArray} {nL : Nat} {ret : Option FieldType} {d : Nat} {α : Type} {ι : α → Option Value × Mem} {pc : Nat} {lv : List (Option Value)} {st : List Value} {σ : Mem} {b : Option α} (X : Cx M w sh cc nL RX3 ret d) {k : Nat} {fs : List (Option Nat)} (q : Nat) (hs : sh[k]? = some (.inr (0, fs))) (hf : fs[5]? = some (some q)) (hd : decode cc pc = .ok (.getfield 98, 3)) (kk : Cp M w sh nL ι (pc + 3) lv (.ref (wad w q) :: st) σ b) : Cp M w sh nL ι pc lv (.ref (wad w k) :: st) σ b := Cp.getRN X clX1 hs 5 (by decide) wfX3_98 hf hd kk
theorem wfX3_100 : Cond.fieldLinkNest RX3 100 "LaughTax$Room" "jokes" "I" "LaughTax" ∈ TB := tb_t 55 (by decide +kernel) (by decide +kernel)
theorem gfX3_100 {M : MC} {w : WE} {sh : List Shp} {cc : ByteArray} {nL : Nat} {ret : Option FieldType} {d : Nat} {α : Type} {ι : α → Option Value × Mem} {pc : Nat} {lv : List (Option Value)} {st : List Value} {σ : Mem} {b : Option α} (X : Cx M w sh cc nL RX3 ret d) {k : Nat} {fs : List (Option Nat)} (hs : sh[k]? = some (.inr (0, fs))) (hf : fs[7]? = some none) (hd : decode cc pc = .ok (.getfield 100, 3)) (kk : Cp M w sh nL ι (pc + 3) lv (.int (σ k 7) :: st) σ b) : Cp M w sh nL ι pc lv (.ref (wad w k) :: st) σ b := Cp.getIN X clX1 hs 7 (by decide) wfX3_100 hf hd kk
theorem pfX3_100 {M : MC} {w : WE} {sh : List Shp} {cc : ByteArray} {nL : Nat} {ret : Option FieldType} {d : Nat} {α : Type} {ι : α → Option Value × Mem} {pc : Nat} {lv : List (Option Value)} {st : List Value} {σ : Mem} {b : Option α} (X : Cx M w sh cc nL RX3 ret d) {k : Nat} {fs : List (Option Nat)} (hs : sh[k]? = some (.inr (0, fs))) (hf : fs[7]? = some none) {v : Int32} (hd : decode cc pc = .ok (.putfield 100, 3)) (kk : Cp M w sh nL ι (pc + 3) lv st (up2 σ k 7 v) b) : Cp M w sh nL ι pc lv (.int v :: .ref (wad w k) :: st) σ b := Cp.putIN X clX1 hs 7 (by decide) wfX3_100 hf rfl (by decide +kernel) hd kk
theorem wfX3_110 : Cond.fieldLinkNest RX3 110 "LaughTax$Room" "rate" "I" "LaughTax" ∈ TB := tb_t 63 (by decide +kernel) (by decide +kernel)
theorem gfX3_110 {M : MC} {w : WE} {sh : List Shp} {cc : ByteArray} {nL : Nat} {ret : Option FieldType} {d : Nat} {α : Type} {ι : α → Option Value × Mem} {pc : Nat} {lv : List (Option Value)} {st : List Value} {σ : Mem} {b : Option α} (X : Cx M w sh cc nL RX3 ret d) {k : Nat} {fs : List (Option Nat)} (hs : sh[k]? = some (.inr (0, fs))) (hf : fs[10]? = some none) (hd : decode cc pc = .ok (.getfield 110, 3)) (kk : Cp M w sh nL ι (pc + 3) lv (.int (σ k 10) :: st) σ b) : Cp M w sh nL ι pc lv (.ref (wad w k) :: st) σ b := Cp.getIN X clX1 hs 10 (by decide) wfX3_110 hf hd kk
theorem pfX3_110 {M : MC} {w : WE} {sh : List Shp} {cc : ByteArray} {nL : Nat} {ret : Option FieldType} {d : Nat} {α : Type} {ι : α → Option Value × Mem} {pc : Nat} {lv : List (Option Value)} {st : List Value} {σ : Mem} {b : Option α} (X : Cx M w sh cc nL RX3 ret d) {k : Nat} {fs : List (Option Nat)} (hs : sh[k]? = some (.inr (0, fs))) (hf : fs[10]? = some none) {v : Int32} (hd : decode cc pc = .ok (.putfield 110, 3)) (kk : Cp M w sh nL ι (pc + 3) lv st (up2 σ k 10 v) b) : Cp M w sh nL ι pc lv (.int v :: .ref (wad w k) :: st) σ b := Cp.putIN X clX1 hs 10 (by decide) wfX3_110 hf rfl (by decide +kernel) hd kk
theorem wfX3_116 : Cond.fieldLink RX3 116 "LaughTax$Tape" "value" "I" ∈ TB := tb_t 142 (by decide +kernel) (by decide +kernel)
theorem gfX3_116 {M : MC} {w : WE} {sh : List Shp} {cc : ByteArray} {nL : Nat} {ret : Option FieldType} {d : Nat} {α : Type} {ι : α → Option Value × Mem} {pc : Nat} {lv : List (Option Value)} {st : List Value} {σ : Mem} {b : Option α} (X : Cx M w sh cc nL RX3 ret d) {k : Nat} {fs : List (Option Nat)} (hs : sh[k]? = some (.inr (2, fs))) (hf : fs[5]? = some none) (hd : decode cc pc = .ok (.getfield 116, 3)) (kk : Cp M w sh nL ι (pc + 3) lv (.int (σ k 5) :: st) σ b) : Cp M w sh nL ι pc lv (.ref (wad w k) :: st) σ b := Cp.getI X clX3 hs 5 (by decide) wfX3_116 hf hd kk
theorem pfX3_116 {M : MC} {w : WE} {sh : List Shp} {cc : ByteArray} {nL : Nat} {ret : Option FieldType} {d : Nat} {α : Type} {ι : α → Option Value × Mem} {pc : Nat} {lv : List (Option Value)} {st : List Value} {σ : Mem} {b : Option α} (X : Cx M w sh cc nL RX3 ret d) {k : Nat} {fs : List (Option Nat)} (hs : sh[k]? = some (.inr (2, fs))) (hf : fs[5]? = some none) {v : Int32} (hd : decode cc pc = .ok (.putfield 116, 3)) (kk : Cp M w sh nL ι (pc + 3) lv st (up2 σ k 5 v) b) : Cp M w sh nL ι pc lv (.int v :: .ref (wad w k) :: st) σ b := Cp.putI X clX3 hs 5 (by decide) wfX3_116 hf rfl (by decide +kernel) hd kk
theorem wfX4_9 : Cond.fieldLink RX4 9 "LaughTax$Telling" "roundOf" "[I" ∈ TB := tb_t 117 (by decide +kernel) (by decide +kernel)
theorem gfX4_9 {M : MC} {w : WE} {sh : List Shp} {cc : ByteArray} {nL : Nat} {ret : Option FieldType} {d : Nat} {α : Type} {ι : α → Option Value × Mem} {pc : Nat} {lv : List (Option Value)} {st : List Value} {σ : Mem} {b : Option α} (X : Cx M w sh cc nL RX4 ret d) {k : Nat} {fs : List (Option Nat)} (q : Nat) (hs : sh[k]? = some (.inr (3, fs))) (hf : fs[0]? = some (some q)) (hd : decode cc pc = .ok (.getfield 9, 3)) (kk : Cp M w sh nL ι (pc + 3) lv (.ref (wad w q) :: st) σ b) : Cp M w sh nL ι pc lv (.ref (wad w k) :: st) σ b := Cp.getR X clX4 hs 0 (by decide) wfX4_9 hf hd kk
theorem wfX4_15 : Cond.fieldLink RX4 15 "LaughTax$Telling" "paid" "[I" ∈ TB := tb_t 119 (by decide +kernel) (by decide +kernel)
theorem gfX4_15 {M : MC} {w : WE} {sh : List Shp} {cc : ByteArray} {nL : Nat} {ret : Option FieldType} {d : Nat} {α : Type} {ι : α → Option Value × Mem} {pc : Nat} {lv : List (Option Value)} {st : List Value} {σ : Mem} {b : Option α} (X : Cx M w sh cc nL RX4 ret d) {k : Nat} {fs : List (Option Nat)} (q : Nat) (hs : sh[k]? = some (.inr (3, fs))) (hf : fs[1]? = some (some q)) (hd : decode cc pc = .ok (.getfield 15, 3)) (kk : Cp M w sh nL ι (pc + 3) lv (.ref (wad w q) :: st) σ b) : Cp M w sh nL ι pc lv (.ref (wad w k) :: st) σ b := Cp.getR X clX4 hs 1 (by decide) wfX4_15 hf hd kk
theorem wfX4_18 : Cond.fieldLinkNest RX4 18 "LaughTax$Room" "people" "I" "LaughTax" ∈ TB := tb_t 30 (by decide +kernel) (by decide +kernel)
theorem gfX4_18 {M : MC} {w : WE} {sh : List Shp} {cc : ByteArray} {nL : Nat} {ret : Option FieldType} {d : Nat} {α : Type} {ι : α → Option Value × Mem} {pc : Nat} {lv : List (Option Value)} {st : List Value} {σ : Mem} {b : Option α} (X : Cx M w sh cc nL RX4 ret d) {k : Nat} {fs : List (Option Nat)} (hs : sh[k]? = some (.inr (0, fs))) (hf : fs[0]? = some none) (hd : decode cc pc = .ok (.getfield 18, 3)) (kk : Cp M w sh nL ι (pc + 3) lv (.int (σ k 0) :: st) σ b) : Cp M w sh nL ι pc lv (.ref (wad w k) :: st) σ b := Cp.getIN X clX1 hs 0 (by decide) wfX4_18 hf hd kk
theorem pfX4_18 {M : MC} {w : WE} {sh : List Shp} {cc : ByteArray} {nL : Nat} {ret : Option FieldType} {d : Nat} {α : Type} {ι : α → Option Value × Mem} {pc : Nat} {lv : List (Option Value)} {st : List Value} {σ : Mem} {b : Option α} (X : Cx M w sh cc nL RX4 ret d) {k : Nat} {fs : List (Option Nat)} (hs : sh[k]? = some (.inr (0, fs))) (hf : fs[0]? = some none) {v : Int32} (hd : decode cc pc = .ok (.putfield 18, 3)) (kk : Cp M w sh nL ι (pc + 3) lv st (up2 σ k 0 v) b) : Cp M w sh nL ι pc lv (.int v :: .ref (wad w k) :: st) σ b := Cp.putIN X clX1 hs 0 (by decide) wfX4_18 hf rfl (by decide +kernel) hd kk
theorem wfX4_28 : Cond.fieldLinkNest RX4 28 "LaughTax$Room" "kind" "[I" "LaughTax" ∈ TB := tb_t 34 (by decide +kernel) (by decide +kernel)
theorem gfX4_28 {M : MC} {w : WE} {sh : List Shp} {cc : ByteArray} {nL : Nat} {ret : Option FieldType} {d : Nat} {α : Type} {ι : α → Option Value × Mem} {pc : Nat} {lv : List (Option Value)} {st : List Value} {σ : Mem} {b : Option α} (X : Cx M w sh cc nL RX4 ret d) {k : Nat} {fs : List (Option Nat)} (q : Nat) (hs : sh[k]? = some (.inr (0, fs))) (hf : fs[1]? = some (some q)) (hd : decode cc pc = .ok (.getfield 28, 3)) (kk : Cp M w sh nL ι (pc + 3) lv (.ref (wad w q) :: st) σ b) : Cp M w sh nL ι pc lv (.ref (wad w k) :: st) σ b := Cp.getRN X clX1 hs 1 (by decide) wfX4_28 hf hd kk
theorem wfX4_31 : Cond.fieldLinkNest RX4 31 "LaughTax$Room" "purse" "[I" "LaughTax" ∈ TB := tb_t 47 (by decide +kernel) (by decide +kernel)
theorem gfX4_31 {M : MC} {w : WE} {sh : List Shp} {cc : ByteArray} {nL : Nat} {ret : Option FieldType} {d : Nat} {α : Type} {ι : α → Option Value × Mem} {pc : Nat} {lv : List (Option Value)} {st : List Value} {σ : Mem} {b : Option α} (X : Cx M w sh cc nL RX4 ret d) {k : Nat} {fs : List (Option Nat)} (q : Nat) (hs : sh[k]? = some (.inr (0, fs))) (hf : fs[5]? = some (some q)) (hd : decode cc pc = .ok (.getfield 31, 3)) (kk : Cp M w sh nL ι (pc + 3) lv (.ref (wad w q) :: st) σ b) : Cp M w sh nL ι pc lv (.ref (wad w k) :: st) σ b := Cp.getRN X clX1 hs 5 (by decide) wfX4_31 hf hd kk
theorem wfX4_40 : Cond.fieldLinkNest RX4 40 "LaughTax$Room" "topics" "[I" "LaughTax" ∈ TB := tb_t 57 (by decide +kernel) (by decide +kernel)
theorem gfX4_40 {M : MC} {w : WE} {sh : List Shp} {cc : ByteArray} {nL : Nat} {ret : Option FieldType} {d : Nat} {α : Type} {ι : α → Option Value × Mem} {pc : Nat} {lv : List (Option Value)} {st : List Value} {σ : Mem} {b : Option α} (X : Cx M w sh cc nL RX4 ret d) {k : Nat} {fs : List (Option Nat)} (q : Nat) (hs : sh[k]? = some (.inr (0, fs))) (hf : fs[8]? = some (some q)) (hd : decode cc pc = .ok (.getfield 40, 3)) (kk : Cp M w sh nL ι (pc + 3) lv (.ref (wad w q) :: st) σ b) : Cp M w sh nL ι pc lv (.ref (wad w k) :: st) σ b := Cp.getRN X clX1 hs 8 (by decide) wfX4_40 hf hd kk
theorem wfX4_43 : Cond.fieldLinkNest RX4 43 "LaughTax$Room" "fun" "[I" "LaughTax" ∈ TB := tb_t 60 (by decide +kernel) (by decide +kernel)
theorem gfX4_43 {M : MC} {w : WE} {sh : List Shp} {cc : ByteArray} {nL : Nat} {ret : Option FieldType} {d : Nat} {α : Type} {ι : α → Option Value × Mem} {pc : Nat} {lv : List (Option Value)} {st : List Value} {σ : Mem} {b : Option α} (X : Cx M w sh cc nL RX4 ret d) {k : Nat} {fs : List (Option Nat)} (q : Nat) (hs : sh[k]? = some (.inr (0, fs))) (hf : fs[9]? = some (some q)) (hd : decode cc pc = .ok (.getfield 43, 3)) (kk : Cp M w sh nL ι (pc + 3) lv (.ref (wad w q) :: st) σ b) : Cp M w sh nL ι pc lv (.ref (wad w k) :: st) σ b := Cp.getRN X clX1 hs 9 (by decide) wfX4_43 hf hd kk
theorem wfX4_57 : Cond.fieldLink RX4 57 "LaughTax$Telling" "lastRound" "I" ∈ TB := tb_t 121 (by decide +kernel) (by decide +kernel)
theorem gfX4_57 {M : MC} {w : WE} {sh : List Shp} {cc : ByteArray} {nL : Nat} {ret : Option FieldType} {d : Nat} {α : Type} {ι : α → Option Value × Mem} {pc : Nat} {lv : List (Option Value)} {st : List Value} {σ : Mem} {b : Option α} (X : Cx M w sh cc nL RX4 ret d) {k : Nat} {fs : List (Option Nat)} (hs : sh[k]? = some (.inr (3, fs))) (hf : fs[2]? = some none) (hd : decode cc pc = .ok (.getfield 57, 3)) (kk : Cp M w sh nL ι (pc + 3) lv (.int (σ k 2) :: st) σ b) : Cp M w sh nL ι pc lv (.ref (wad w k) :: st) σ b := Cp.getI X clX4 hs 2 (by decide) wfX4_57 hf hd kk
theorem pfX4_57 {M : MC} {w : WE} {sh : List Shp} {cc : ByteArray} {nL : Nat} {ret : Option FieldType} {d : Nat} {α : Type} {ι : α → Option Value × Mem} {pc : Nat} {lv : List (Option Value)} {st : List Value} {σ : Mem} {b : Option α} (X : Cx M w sh cc nL RX4 ret d) {k : Nat} {fs : List (Option Nat)} (hs : sh[k]? = some (.inr (3, fs))) (hf : fs[2]? = some none) {v : Int32} (hd : decode cc pc = .ok (.putfield 57, 3)) (kk : Cp M w sh nL ι (pc + 3) lv st (up2 σ k 2 v) b) : Cp M w sh nL ι pc lv (.int v :: .ref (wad w k) :: st) σ b := Cp.putI X clX4 hs 2 (by decide) wfX4_57 hf rfl (by decide +kernel) hd kk
theorem wfX4_67 : Cond.fieldLinkNest RX4 67 "LaughTax$Room" "near" "[I" "LaughTax" ∈ TB := tb_t 52 (by decide +kernel) (by decide +kernel)
theorem gfX4_67 {M : MC} {w : WE} {sh : List Shp} {cc : ByteArray} {nL : Nat} {ret : Option FieldType} {d : Nat} {α : Type} {ι : α → Option Value × Mem} {pc : Nat} {lv : List (Option Value)} {st : List Value} {σ : Mem} {b : Option α} (X : Cx M w sh cc nL RX4 ret d) {k : Nat} {fs : List (Option Nat)} (q : Nat) (hs : sh[k]? = some (.inr (0, fs))) (hf : fs[6]? = some (some q)) (hd : decode cc pc = .ok (.getfield 67, 3)) (kk : Cp M w sh nL ι (pc + 3) lv (.ref (wad w q) :: st) σ b) : Cp M w sh nL ι pc lv (.ref (wad w k) :: st) σ b := Cp.getRN X clX1 hs 6 (by decide) wfX4_67 hf hd kk
theorem wfX4_80 : Cond.fieldLinkNest RX4 80 "LaughTax$Room" "mood" "[I" "LaughTax" ∈ TB := tb_t 44 (by decide +kernel) (by decide +kernel)
theorem gfX4_80 {M : MC} {w : WE} {sh : List Shp} {cc : ByteArray} {nL : Nat} {ret : Option FieldType} {d : Nat} {α : Type} {ι : α → Option Value × Mem} {pc : Nat} {lv : List (Option Value)} {st : List Value} {σ : Mem} {b : Option α} (X : Cx M w sh cc nL RX4 ret d) {k : Nat} {fs : List (Option Nat)} (q : Nat) (hs : sh[k]? = some (.inr (0, fs))) (hf : fs[4]? = some (some q)) (hd : decode cc pc = .ok (.getfield 80, 3)) (kk : Cp M w sh nL ι (pc + 3) lv (.ref (wad w q) :: st) σ b) : Cp M w sh nL ι pc lv (.ref (wad w k) :: st) σ b := Cp.getRN X clX1 hs 4 (by decide) wfX4_80 hf hd kk
theorem wfX4_105 : Cond.fieldLinkNest RX4 105 "LaughTax$Room" "told" "I" "LaughTax" ∈ TB := tb_t 71 (by decide +kernel) (by decide +kernel)
theorem gfX4_105 {M : MC} {w : WE} {sh : List Shp} {cc : ByteArray} {nL : Nat} {ret : Option FieldType} {d : Nat} {α : Type} {ι : α → Option Value × Mem} {pc : Nat} {lv : List (Option Value)} {st : List Value} {σ : Mem} {b : Option α} (X : Cx M w sh cc nL RX4 ret d) {k : Nat} {fs : List (Option Nat)} (hs : sh[k]? = some (.inr (0, fs))) (hf : fs[13]? = some none) (hd : decode cc pc = .ok (.getfield 105, 3)) (kk : Cp M w sh nL ι (pc + 3) lv (.int (σ k 13) :: st) σ b) : Cp M w sh nL ι pc lv (.ref (wad w k) :: st) σ b := Cp.getIN X clX1 hs 13 (by decide) wfX4_105 hf hd kk
theorem pfX4_105 {M : MC} {w : WE} {sh : List Shp} {cc : ByteArray} {nL : Nat} {ret : Option FieldType} {d : Nat} {α : Type} {ι : α → Option Value × Mem} {pc : Nat} {lv : List (Option Value)} {st : List Value} {σ : Mem} {b : Option α} (X : Cx M w sh cc nL RX4 ret d) {k : Nat} {fs : List (Option Nat)} (hs : sh[k]? = some (.inr (0, fs))) (hf : fs[13]? = some none) {v : Int32} (hd : decode cc pc = .ok (.putfield 105, 3)) (kk : Cp M w sh nL ι (pc + 3) lv st (up2 σ k 13 v) b) : Cp M w sh nL ι pc lv (.int v :: .ref (wad w k) :: st) σ b := Cp.putIN X clX1 hs 13 (by decide) wfX4_105 hf rfl (by decide +kernel) hd kk
theorem wfX4_109 : Cond.fieldLinkNest RX4 109 "LaughTax$Room" "treasury" "I" "LaughTax" ∈ TB := tb_t 68 (by decide +kernel) (by decide +kernel)
theorem gfX4_109 {M : MC} {w : WE} {sh : List Shp} {cc : ByteArray} {nL : Nat} {ret : Option FieldType} {d : Nat} {α : Type} {ι : α → Option Value × Mem} {pc : Nat} {lv : List (Option Value)} {st : List Value} {σ : Mem} {b : Option α} (X : Cx M w sh cc nL RX4 ret d) {k : Nat} {fs : List (Option Nat)} (hs : sh[k]? = some (.inr (0, fs))) (hf : fs[12]? = some none) (hd : decode cc pc = .ok (.getfield 109, 3)) (kk : Cp M w sh nL ι (pc + 3) lv (.int (σ k 12) :: st) σ b) : Cp M w sh nL ι pc lv (.ref (wad w k) :: st) σ b := Cp.getIN X clX1 hs 12 (by decide) wfX4_109 hf hd kk
theorem pfX4_109 {M : MC} {w : WE} {sh : List Shp} {cc : ByteArray} {nL : Nat} {ret : Option FieldType} {d : Nat} {α : Type} {ι : α → Option Value × Mem} {pc : Nat} {lv : List (Option Value)} {st : List Value} {σ : Mem} {b : Option α} (X : Cx M w sh cc nL RX4 ret d) {k : Nat} {fs : List (Option Nat)} (hs : sh[k]? = some (.inr (0, fs))) (hf : fs[12]? = some none) {v : Int32} (hd : decode cc pc = .ok (.putfield 109, 3)) (kk : Cp M w sh nL ι (pc + 3) lv st (up2 σ k 12 v) b) : Cp M w sh nL ι pc lv (.int v :: .ref (wad w k) :: st) σ b := Cp.putIN X clX1 hs 12 (by decide) wfX4_109 hf rfl (by decide +kernel) hd kk
theorem wfX6_9 : Cond.fieldLink RX6 9 "LaughTaxModel" "s" "[I" ∈ TB := tb_t 761 (by decide +kernel) (by decide +kernel)
theorem gfX6_9 {M : MC} {w : WE} {sh : List Shp} {cc : ByteArray} {nL : Nat} {ret : Option FieldType} {d : Nat} {α : Type} {ι : α → Option Value × Mem} {pc : Nat} {lv : List (Option Value)} {st : List Value} {σ : Mem} {b : Option α} (X : Cx M w sh cc nL RX6 ret d) {k : Nat} {fs : List (Option Nat)} (q : Nat) (hs : sh[k]? = some (.inr (5, fs))) (hf : fs[0]? = some (some q)) (hd : decode cc pc = .ok (.getfield 9, 3)) (kk : Cp M w sh nL ι (pc + 3) lv (.ref (wad w q) :: st) σ b) : Cp M w sh nL ι pc lv (.ref (wad w k) :: st) σ b := Cp.getR X clX6 hs 0 (by decide) wfX6_9 hf hd kk
theorem wfX6_13 : Cond.fieldLink RX6 13 "LaughTaxModel" "kept" "[I" ∈ TB := tb_t 762 (by decide +kernel) (by decide +kernel)
theorem gfX6_13 {M : MC} {w : WE} {sh : List Shp} {cc : ByteArray} {nL : Nat} {ret : Option FieldType} {d : Nat} {α : Type} {ι : α → Option Value × Mem} {pc : Nat} {lv : List (Option Value)} {st : List Value} {σ : Mem} {b : Option α} (X : Cx M w sh cc nL RX6 ret d) {k : Nat} {fs : List (Option Nat)} (q : Nat) (hs : sh[k]? = some (.inr (5, fs))) (hf : fs[1]? = some (some q)) (hd : decode cc pc = .ok (.getfield 13, 3)) (kk : Cp M w sh nL ι (pc + 3) lv (.ref (wad w q) :: st) σ b) : Cp M w sh nL ι pc lv (.ref (wad w k) :: st) σ b := Cp.getR X clX6 hs 1 (by decide) wfX6_13 hf hd kk
theorem wfX6_16 : Cond.fieldLink RX6 16 "LaughTaxModel" "aside" "[I" ∈ TB := tb_t 763 (by decide +kernel) (by decide +kernel)
theorem gfX6_16 {M : MC} {w : WE} {sh : List Shp} {cc : ByteArray} {nL : Nat} {ret : Option FieldType} {d : Nat} {α : Type} {ι : α → Option Value × Mem} {pc : Nat} {lv : List (Option Value)} {st : List Value} {σ : Mem} {b : Option α} (X : Cx M w sh cc nL RX6 ret d) {k : Nat} {fs : List (Option Nat)} (q : Nat) (hs : sh[k]? = some (.inr (5, fs))) (hf : fs[2]? = some (some q)) (hd : decode cc pc = .ok (.getfield 16, 3)) (kk : Cp M w sh nL ι (pc + 3) lv (.ref (wad w q) :: st) σ b) : Cp M w sh nL ι pc lv (.ref (wad w k) :: st) σ b := Cp.getR X clX6 hs 2 (by decide) wfX6_16 hf hd kk
theorem wfX6_19 : Cond.fieldLink RX6 19 "LaughTaxModel" "found" "[I" ∈ TB := tb_t 765 (by decide +kernel) (by decide +kernel)
theorem gfX6_19 {M : MC} {w : WE} {sh : List Shp} {cc : ByteArray} {nL : Nat} {ret : Option FieldType} {d : Nat} {α : Type} {ι : α → Option Value × Mem} {pc : Nat} {lv : List (Option Value)} {st : List Value} {σ : Mem} {b : Option α} (X : Cx M w sh cc nL RX6 ret d) {k : Nat} {fs : List (Option Nat)} (q : Nat) (hs : sh[k]? = some (.inr (5, fs))) (hf : fs[4]? = some (some q)) (hd : decode cc pc = .ok (.getfield 19, 3)) (kk : Cp M w sh nL ι (pc + 3) lv (.ref (wad w q) :: st) σ b) : Cp M w sh nL ι pc lv (.ref (wad w k) :: st) σ b := Cp.getR X clX6 hs 4 (by decide) wfX6_19 hf hd kk
theorem wfX6_22 : Cond.fieldLink RX6 22 "LaughTaxModel" "round" "[I" ∈ TB := tb_t 766 (by decide +kernel) (by decide +kernel)
theorem gfX6_22 {M : MC} {w : WE} {sh : List Shp} {cc : ByteArray} {nL : Nat} {ret : Option FieldType} {d : Nat} {α : Type} {ι : α → Option Value × Mem} {pc : Nat} {lv : List (Option Value)} {st : List Value} {σ : Mem} {b : Option α} (X : Cx M w sh cc nL RX6 ret d) {k : Nat} {fs : List (Option Nat)} (q : Nat) (hs : sh[k]? = some (.inr (5, fs))) (hf : fs[5]? = some (some q)) (hd : decode cc pc = .ok (.getfield 22, 3)) (kk : Cp M w sh nL ι (pc + 3) lv (.ref (wad w q) :: st) σ b) : Cp M w sh nL ι pc lv (.ref (wad w k) :: st) σ b := Cp.getR X clX6 hs 5 (by decide) wfX6_22 hf hd kk
theorem wfX6_25 : Cond.fieldLink RX6 25 "LaughTaxModel" "paid" "[I" ∈ TB := tb_t 768 (by decide +kernel) (by decide +kernel)
theorem gfX6_25 {M : MC} {w : WE} {sh : List Shp} {cc : ByteArray} {nL : Nat} {ret : Option FieldType} {d : Nat} {α : Type} {ι : α → Option Value × Mem} {pc : Nat} {lv : List (Option Value)} {st : List Value} {σ : Mem} {b : Option α} (X : Cx M w sh cc nL RX6 ret d) {k : Nat} {fs : List (Option Nat)} (q : Nat) (hs : sh[k]? = some (.inr (5, fs))) (hf : fs[7]? = some (some q)) (hd : decode cc pc = .ok (.getfield 25, 3)) (kk : Cp M w sh nL ι (pc + 3) lv (.ref (wad w q) :: st) σ b) : Cp M w sh nL ι pc lv (.ref (wad w k) :: st) σ b := Cp.getR X clX6 hs 7 (by decide) wfX6_25 hf hd kk
theorem wfX6_28 : Cond.fieldLink RX6 28 "LaughTaxModel" "tape" "[I" ∈ TB := tb_t 770 (by decide +kernel) (by decide +kernel)
theorem gfX6_28 {M : MC} {w : WE} {sh : List Shp} {cc : ByteArray} {nL : Nat} {ret : Option FieldType} {d : Nat} {α : Type} {ι : α → Option Value × Mem} {pc : Nat} {lv : List (Option Value)} {st : List Value} {σ : Mem} {b : Option α} (X : Cx M w sh cc nL RX6 ret d) {k : Nat} {fs : List (Option Nat)} (q : Nat) (hs : sh[k]? = some (.inr (5, fs))) (hf : fs[9]? = some (some q)) (hd : decode cc pc = .ok (.getfield 28, 3)) (kk : Cp M w sh nL ι (pc + 3) lv (.ref (wad w q) :: st) σ b) : Cp M w sh nL ι pc lv (.ref (wad w k) :: st) σ b := Cp.getR X clX6 hs 9 (by decide) wfX6_28 hf hd kk
theorem wfX6_31 : Cond.fieldLink RX6 31 "LaughTaxModel" "bitsOf" "[I" ∈ TB := tb_t 775 (by decide +kernel) (by decide +kernel)
theorem gfX6_31 {M : MC} {w : WE} {sh : List Shp} {cc : ByteArray} {nL : Nat} {ret : Option FieldType} {d : Nat} {α : Type} {ι : α → Option Value × Mem} {pc : Nat} {lv : List (Option Value)} {st : List Value} {σ : Mem} {b : Option α} (X : Cx M w sh cc nL RX6 ret d) {k : Nat} {fs : List (Option Nat)} (q : Nat) (hs : sh[k]? = some (.inr (5, fs))) (hf : fs[14]? = some (some q)) (hd : decode cc pc = .ok (.getfield 31, 3)) (kk : Cp M w sh nL ι (pc + 3) lv (.ref (wad w q) :: st) σ b) : Cp M w sh nL ι pc lv (.ref (wad w k) :: st) σ b := Cp.getR X clX6 hs 14 (by decide) wfX6_31 hf hd kk
theorem wfX6_34 : Cond.fieldLink RX6 34 "LaughTaxModel" "sizeOf" "[I" ∈ TB := tb_t 776 (by decide +kernel) (by decide +kernel)
theorem gfX6_34 {M : MC} {w : WE} {sh : List Shp} {cc : ByteArray} {nL : Nat} {ret : Option FieldType} {d : Nat} {α : Type} {ι : α → Option Value × Mem} {pc : Nat} {lv : List (Option Value)} {st : List Value} {σ : Mem} {b : Option α} (X : Cx M w sh cc nL RX6 ret d) {k : Nat} {fs : List (Option Nat)} (q : Nat) (hs : sh[k]? = some (.inr (5, fs))) (hf : fs[15]? = some (some q)) (hd : decode cc pc = .ok (.getfield 34, 3)) (kk : Cp M w sh nL ι (pc + 3) lv (.ref (wad w q) :: st) σ b) : Cp M w sh nL ι pc lv (.ref (wad w k) :: st) σ b := Cp.getR X clX6 hs 15 (by decide) wfX6_34 hf hd kk
theorem wfX6_37 : Cond.fieldLink RX6 37 "LaughTaxModel" "number" "[I" ∈ TB := tb_t 777 (by decide +kernel) (by decide +kernel)
theorem gfX6_37 {M : MC} {w : WE} {sh : List Shp} {cc : ByteArray} {nL : Nat} {ret : Option FieldType} {d : Nat} {α : Type} {ι : α → Option Value × Mem} {pc : Nat} {lv : List (Option Value)} {st : List Value} {σ : Mem} {b : Option α} (X : Cx M w sh cc nL RX6 ret d) {k : Nat} {fs : List (Option Nat)} (q : Nat) (hs : sh[k]? = some (.inr (5, fs))) (hf : fs[16]? = some (some q)) (hd : decode cc pc = .ok (.getfield 37, 3)) (kk : Cp M w sh nL ι (pc + 3) lv (.ref (wad w q) :: st) σ b) : Cp M w sh nL ι pc lv (.ref (wad w k) :: st) σ b := Cp.getR X clX6 hs 16 (by decide) wfX6_37 hf hd kk
theorem wfX6_40 : Cond.fieldLink RX6 40 "LaughTaxModel" "moved" "[I" ∈ TB := tb_t 778 (by decide +kernel) (by decide +kernel)
theorem gfX6_40 {M : MC} {w : WE} {sh : List Shp} {cc : ByteArray} {nL : Nat} {ret : Option FieldType} {d : Nat} {α : Type} {ι : α → Option Value × Mem} {pc : Nat} {lv : List (Option Value)} {st : List Value} {σ : Mem} {b : Option α} (X : Cx M w sh cc nL RX6 ret d) {k : Nat} {fs : List (Option Nat)} (q : Nat) (hs : sh[k]? = some (.inr (5, fs))) (hf : fs[17]? = some (some q)) (hd : decode cc pc = .ok (.getfield 40, 3)) (kk : Cp M w sh nL ι (pc + 3) lv (.ref (wad w q) :: st) σ b) : Cp M w sh nL ι pc lv (.ref (wad w k) :: st) σ b := Cp.getR X clX6 hs 17 (by decide) wfX6_40 hf hd kk
theorem wfX6_148 : Cond.fieldLink RX6 148 "LaughTaxModel" "rounds" "I" ∈ TB := tb_t 767 (by decide +kernel) (by decide +kernel)
theorem gfX6_148 {M : MC} {w : WE} {sh : List Shp} {cc : ByteArray} {nL : Nat} {ret : Option FieldType} {d : Nat} {α : Type} {ι : α → Option Value × Mem} {pc : Nat} {lv : List (Option Value)} {st : List Value} {σ : Mem} {b : Option α} (X : Cx M w sh cc nL RX6 ret d) {k : Nat} {fs : List (Option Nat)} (hs : sh[k]? = some (.inr (5, fs))) (hf : fs[6]? = some none) (hd : decode cc pc = .ok (.getfield 148, 3)) (kk : Cp M w sh nL ι (pc + 3) lv (.int (σ k 6) :: st) σ b) : Cp M w sh nL ι pc lv (.ref (wad w k) :: st) σ b := Cp.getI X clX6 hs 6 (by decide) wfX6_148 hf hd kk
theorem pfX6_148 {M : MC} {w : WE} {sh : List Shp} {cc : ByteArray} {nL : Nat} {ret : Option FieldType} {d : Nat} {α : Type} {ι : α → Option Value × Mem} {pc : Nat} {lv : List (Option Value)} {st : List Value} {σ : Mem} {b : Option α} (X : Cx M w sh cc nL RX6 ret d) {k : Nat} {fs : List (Option Nat)} (hs : sh[k]? = some (.inr (5, fs))) (hf : fs[6]? = some none) {v : Int32} (hd : decode cc pc = .ok (.putfield 148, 3)) (kk : Cp M w sh nL ι (pc + 3) lv st (up2 σ k 6 v) b) : Cp M w sh nL ι pc lv (.int v :: .ref (wad w k) :: st) σ b := Cp.putI X clX6 hs 6 (by decide) wfX6_148 hf rfl (by decide +kernel) hd kk
theorem wfX6_197 : Cond.fieldLink RX6 197 "LaughTaxModel" "leastTaste" "I" ∈ TB := tb_t 769 (by decide +kernel) (by decide +kernel)
theorem gfX6_197 {M : MC} {w : WE} {sh : List Shp} {cc : ByteArray} {nL : Nat} {ret : Option FieldType} {d : Nat} {α : Type} {ι : α → Option Value × Mem} {pc : Nat} {lv : List (Option Value)} {st : List Value} {σ : Mem} {b : Option α} (X : Cx M w sh cc nL RX6 ret d) {k : Nat} {fs : List (Option Nat)} (hs : sh[k]? = some (.inr (5, fs))) (hf : fs[8]? = some none) (hd : decode cc pc = .ok (.getfield 197, 3)) (kk : Cp M w sh nL ι (pc + 3) lv (.int (σ k 8) :: st) σ b) : Cp M w sh nL ι pc lv (.ref (wad w k) :: st) σ b := Cp.getI X clX6 hs 8 (by decide) wfX6_197 hf hd kk
theorem pfX6_197 {M : MC} {w : WE} {sh : List Shp} {cc : ByteArray} {nL : Nat} {ret : Option FieldType} {d : Nat} {α : Type} {ι : α → Option Value × Mem} {pc : Nat} {lv : List (Option Value)} {st : List Value} {σ : Mem} {b : Option α} (X : Cx M w sh cc nL RX6 ret d) {k : Nat} {fs : List (Option Nat)} (hs : sh[k]? = some (.inr (5, fs))) (hf : fs[8]? = some none) {v : Int32} (hd : decode cc pc = .ok (.putfield 197, 3)) (kk : Cp M w sh nL ι (pc + 3) lv st (up2 σ k 8 v) b) : Cp M w sh nL ι pc lv (.int v :: .ref (wad w k) :: st) σ b := Cp.putI X clX6 hs 8 (by decide) wfX6_197 hf rfl (by decide +kernel) hd kk
theorem wfX6_221 : Cond.fieldLink RX6 221 "LaughTaxModel" "taped" "I" ∈ TB := tb_t 771 (by decide +kernel) (by decide +kernel)
theorem gfX6_221 {M : MC} {w : WE} {sh : List Shp} {cc : ByteArray} {nL : Nat} {ret : Option FieldType} {d : Nat} {α : Type} {ι : α → Option Value × Mem} {pc : Nat} {lv : List (Option Value)} {st : List Value} {σ : Mem} {b : Option α} (X : Cx M w sh cc nL RX6 ret d) {k : Nat} {fs : List (Option Nat)} (hs : sh[k]? = some (.inr (5, fs))) (hf : fs[10]? = some none) (hd : decode cc pc = .ok (.getfield 221, 3)) (kk : Cp M w sh nL ι (pc + 3) lv (.int (σ k 10) :: st) σ b) : Cp M w sh nL ι pc lv (.ref (wad w k) :: st) σ b := Cp.getI X clX6 hs 10 (by decide) wfX6_221 hf hd kk
theorem pfX6_221 {M : MC} {w : WE} {sh : List Shp} {cc : ByteArray} {nL : Nat} {ret : Option FieldType} {d : Nat} {α : Type} {ι : α → Option Value × Mem} {pc : Nat} {lv : List (Option Value)} {st : List Value} {σ : Mem} {b : Option α} (X : Cx M w sh cc nL RX6 ret d) {k : Nat} {fs : List (Option Nat)} (hs : sh[k]? = some (.inr (5, fs))) (hf : fs[10]? = some none) {v : Int32} (hd : decode cc pc = .ok (.putfield 221, 3)) (kk : Cp M w sh nL ι (pc + 3) lv st (up2 σ k 10 v) b) : Cp M w sh nL ι pc lv (.int v :: .ref (wad w k) :: st) σ b := Cp.putI X clX6 hs 10 (by decide) wfX6_221 hf rfl (by decide +kernel) hd kk
theorem wfX6_224 : Cond.fieldLink RX6 224 "LaughTaxModel" "to" "I" ∈ TB := tb_t 773 (by decide +kernel) (by decide +kernel)
theorem gfX6_224 {M : MC} {w : WE} {sh : List Shp} {cc : ByteArray} {nL : Nat} {ret : Option FieldType} {d : Nat} {α : Type} {ι : α → Option Value × Mem} {pc : Nat} {lv : List (Option Value)} {st : List Value} {σ : Mem} {b : Option α} (X : Cx M w sh cc nL RX6 ret d) {k : Nat} {fs : List (Option Nat)} (hs : sh[k]? = some (.inr (5, fs))) (hf : fs[12]? = some none) (hd : decode cc pc = .ok (.getfield 224, 3)) (kk : Cp M w sh nL ι (pc + 3) lv (.int (σ k 12) :: st) σ b) : Cp M w sh nL ι pc lv (.ref (wad w k) :: st) σ b := Cp.getI X clX6 hs 12 (by decide) wfX6_224 hf hd kk
theorem pfX6_224 {M : MC} {w : WE} {sh : List Shp} {cc : ByteArray} {nL : Nat} {ret : Option FieldType} {d : Nat} {α : Type} {ι : α → Option Value × Mem} {pc : Nat} {lv : List (Option Value)} {st : List Value} {σ : Mem} {b : Option α} (X : Cx M w sh cc nL RX6 ret d) {k : Nat} {fs : List (Option Nat)} (hs : sh[k]? = some (.inr (5, fs))) (hf : fs[12]? = some none) {v : Int32} (hd : decode cc pc = .ok (.putfield 224, 3)) (kk : Cp M w sh nL ι (pc + 3) lv st (up2 σ k 12 v) b) : Cp M w sh nL ι pc lv (.int v :: .ref (wad w k) :: st) σ b := Cp.putI X clX6 hs 12 (by decide) wfX6_224 hf rfl (by decide +kernel) hd kk
theorem wfX6_227 : Cond.fieldLink RX6 227 "LaughTaxModel" "from" "I" ∈ TB := tb_t 772 (by decide +kernel) (by decide +kernel)
theorem gfX6_227 {M : MC} {w : WE} {sh : List Shp} {cc : ByteArray} {nL : Nat} {ret : Option FieldType} {d : Nat} {α : Type} {ι : α → Option Value × Mem} {pc : Nat} {lv : List (Option Value)} {st : List Value} {σ : Mem} {b : Option α} (X : Cx M w sh cc nL RX6 ret d) {k : Nat} {fs : List (Option Nat)} (hs : sh[k]? = some (.inr (5, fs))) (hf : fs[11]? = some none) (hd : decode cc pc = .ok (.getfield 227, 3)) (kk : Cp M w sh nL ι (pc + 3) lv (.int (σ k 11) :: st) σ b) : Cp M w sh nL ι pc lv (.ref (wad w k) :: st) σ b := Cp.getI X clX6 hs 11 (by decide) wfX6_227 hf hd kk
theorem pfX6_227 {M : MC} {w : WE} {sh : List Shp} {cc : ByteArray} {nL : Nat} {ret : Option FieldType} {d : Nat} {α : Type} {ι : α → Option Value × Mem} {pc : Nat} {lv : List (Option Value)} {st : List Value} {σ : Mem} {b : Option α} (X : Cx M w sh cc nL RX6 ret d) {k : Nat} {fs : List (Option Nat)} (hs : sh[k]? = some (.inr (5, fs))) (hf : fs[11]? = some none) {v : Int32} (hd : decode cc pc = .ok (.putfield 227, 3)) (kk : Cp M w sh nL ι (pc + 3) lv st (up2 σ k 11 v) b) : Cp M w sh nL ι pc lv (.int v :: .ref (wad w k) :: st) σ b := Cp.putI X clX6 hs 11 (by decide) wfX6_227 hf rfl (by decide +kernel) hd kk
theorem wfX6_233 : Cond.fieldLink RX6 233 "LaughTaxModel" "isWrong" "Z" ∈ TB := tb_t 774 (by decide +kernel) (by decide +kernel)
theorem gfX6_233 {M : MC} {w : WE} {sh : List Shp} {cc : ByteArray} {nL : Nat} {ret : Option FieldType} {d : Nat} {α : Type} {ι : α → Option Value × Mem} {pc : Nat} {lv : List (Option Value)} {st : List Value} {σ : Mem} {b : Option α} (X : Cx M w sh cc nL RX6 ret d) {k : Nat} {fs : List (Option Nat)} (hs : sh[k]? = some (.inr (5, fs))) (hf : fs[13]? = some none) (hd : decode cc pc = .ok (.getfield 233, 3)) (kk : Cp M w sh nL ι (pc + 3) lv (.int (σ k 13) :: st) σ b) : Cp M w sh nL ι pc lv (.ref (wad w k) :: st) σ b := Cp.getI X clX6 hs 13 (by decide) wfX6_233 hf hd kk
theorem pfX6_233 {M : MC} {w : WE} {sh : List Shp} {cc : ByteArray} {nL : Nat} {ret : Option FieldType} {d : Nat} {α : Type} {ι : α → Option Value × Mem} {pc : Nat} {lv : List (Option Value)} {st : List Value} {σ : Mem} {b : Option α} (X : Cx M w sh cc nL RX6 ret d) {k : Nat} {fs : List (Option Nat)} (hs : sh[k]? = some (.inr (5, fs))) (hf : fs[13]? = some none) {v : Int32} (hd : decode cc pc = .ok (.putfield 233, 3)) (kk : Cp M w sh nL ι (pc + 3) lv st (up2 σ k 13 v) b) : Cp M w sh nL ι pc lv (.int v :: .ref (wad w k) :: st) σ (gd (v = 0 ∨ v = 1) b) := Cp.putZ X clX6 hs 13 (by decide) wfX6_233 hf rfl (by decide +kernel) hd kk
theorem pfcX6_233 {M : MC} {w : WE} {sh : List Shp} {cc : ByteArray} {nL : Nat} {ret : Option FieldType} {d : Nat} {α : Type} {ι : α → Option Value × Mem} {pc : Nat} {lv : List (Option Value)} {st : List Value} {σ : Mem} {b : Option α} (X : Cx M w sh cc nL RX6 ret d) {k : Nat} {fs : List (Option Nat)} (hs : sh[k]? = some (.inr (5, fs))) (hf : fs[13]? = some none) {v : Int32} (hv : v = 0 ∨ v = 1) (hd : decode cc pc = .ok (.putfield 233, 3)) (kk : Cp M w sh nL ι (pc + 3) lv st (up2 σ k 13 v) b) : Cp M w sh nL ι pc lv (.int v :: .ref (wad w k) :: st) σ b := Cp.putZc X clX6 hs 13 (by decide) wfX6_233 hf rfl (by decide +kernel) hv hd kk
theorem wfX6_324 : Cond.fieldLink RX6 324 "LaughTaxModel" "isKept" "Z" ∈ TB := tb_t 764 (by decide +kernel) (by decide +kernel)
theorem gfX6_324 {M : MC} {w : WE} {sh : List Shp} {cc : ByteArray} {nL : Nat} {ret : Option FieldType} {d : Nat} {α : Type} {ι : α → Option Value × Mem} {pc : Nat} {lv : List (Option Value)} {st : List Value} {σ : Mem} {b : Option α} (X : Cx M w sh cc nL RX6 ret d) {k : Nat} {fs : List (Option Nat)} (hs : sh[k]? = some (.inr (5, fs))) (hf : fs[3]? = some none) (hd : decode cc pc = .ok (.getfield 324, 3)) (kk : Cp M w sh nL ι (pc + 3) lv (.int (σ k 3) :: st) σ b) : Cp M w sh nL ι pc lv (.ref (wad w k) :: st) σ b := Cp.getI X clX6 hs 3 (by decide) wfX6_324 hf hd kk
theorem pfX6_324 {M : MC} {w : WE} {sh : List Shp} {cc : ByteArray} {nL : Nat} {ret : Option FieldType} {d : Nat} {α : Type} {ι : α → Option Value × Mem} {pc : Nat} {lv : List (Option Value)} {st : List Value} {σ : Mem} {b : Option α} (X : Cx M w sh cc nL RX6 ret d) {k : Nat} {fs : List (Option Nat)} (hs : sh[k]? = some (.inr (5, fs))) (hf : fs[3]? = some none) {v : Int32} (hd : decode cc pc = .ok (.putfield 324, 3)) (kk : Cp M w sh nL ι (pc + 3) lv st (up2 σ k 3 v) b) : Cp M w sh nL ι pc lv (.int v :: .ref (wad w k) :: st) σ (gd (v = 0 ∨ v = 1) b) := Cp.putZ X clX6 hs 3 (by decide) wfX6_324 hf rfl (by decide +kernel) hd kk
theorem pfcX6_324 {M : MC} {w : WE} {sh : List Shp} {cc : ByteArray} {nL : Nat} {ret : Option FieldType} {d : Nat} {α : Type} {ι : α → Option Value × Mem} {pc : Nat} {lv : List (Option Value)} {st : List Value} {σ : Mem} {b : Option α} (X : Cx M w sh cc nL RX6 ret d) {k : Nat} {fs : List (Option Nat)} (hs : sh[k]? = some (.inr (5, fs))) (hf : fs[3]? = some none) {v : Int32} (hv : v = 0 ∨ v = 1) (hd : decode cc pc = .ok (.putfield 324, 3)) (kk : Cp M w sh nL ι (pc + 3) lv st (up2 σ k 3 v) b) : Cp M w sh nL ι pc lv (.int v :: .ref (wad w k) :: st) σ b := Cp.putZc X clX6 hs 3 (by decide) wfX6_324 hf rfl (by decide +kernel) hv hd kk
theorem wcX5_58 : Cond.constant RX5 58 (-1000001) ∈ TB := tb_t 218 (by decide +kernel) (by decide +kernel)
theorem wcX5_67 : Cond.constant RX5 67 (-1000002) ∈ TB := tb_t 223 (by decide +kernel) (by decide +kernel)
theorem wcX5_165 : Cond.constant RX5 165 (99999) ∈ TB := tb_t 330 (by decide +kernel) (by decide +kernel)
theorem wcX5_166 : Cond.constant RX5 166 (-1000005) ∈ TB := tb_t 331 (by decide +kernel) (by decide +kernel)
theorem wcX5_182 : Cond.constant RX5 182 (-1000004) ∈ TB := tb_t 397 (by decide +kernel) (by decide +kernel)
theorem wcX5_265 : Cond.constant RX5 265 (-1000006) ∈ TB := tb_t 505 (by decide +kernel) (by decide +kernel)
theorem wcX5_269 : Cond.constant RX5 269 (-1000003) ∈ TB := tb_t 695 (by decide +kernel) (by decide +kernel)
theorem wcX5_270 : Cond.constant RX5 270 (-1000007) ∈ TB := tb_t 700 (by decide +kernel) (by decide +kernel)
theorem wcX1_87 : Cond.constant RX1 87 (1103515245) ∈ TB := tb_t 536 (by decide +kernel) (by decide +kernel)
theorem wcX4_104 : Cond.constant RX4 104 (99999) ∈ TB := tb_t 375 (by decide +kernel) (by decide +kernel)
theorem wcX4_108 : Cond.constant RX4 108 (999999) ∈ TB := tb_t 372 (by decide +kernel) (by decide +kernel)
theorem wcX6_43 : Cond.constant RX6 43 (-1000001) ∈ TB := tb_t 835 (by decide +kernel) (by decide +kernel)
theorem wcX6_165 : Cond.constant RX6 165 (999999) ∈ TB := tb_t 958 (by decide +kernel) (by decide +kernel)
theorem wcX6_166 : Cond.constant RX6 166 (99999) ∈ TB := tb_t 937 (by decide +kernel) (by decide +kernel)
theorem wcX6_213 : Cond.constant RX6 213 (1103515245) ∈ TB := tb_t 1116 (by decide +kernel) (by decide +kernel)
theorem wcJ6_265 : Cond.constant RJ6 265 (1431655765) ∈ TB := tb_t 255 (by decide +kernel) (by decide +kernel)
theorem wcJ6_266 : Cond.constant RJ6 266 (858993459) ∈ TB := tb_t 256 (by decide +kernel) (by decide +kernel)
theorem wcJ6_267 : Cond.constant RJ6 267 (252645135) ∈ TB := tb_t 257 (by decide +kernel) (by decide +kernel)
theorem wcX6_52 : Cond.constantLong RX6 52 (15) ∈ TB := tb_t 830 (by decide +kernel) (by decide +kernel)
theorem wcX6_54 : Cond.constantLong RX6 54 (63) ∈ TB := tb_t 881 (by decide +kernel) (by decide +kernel)
theorem wcX6_56 : Cond.constantLong RX6 56 (9) ∈ TB := tb_t 882 (by decide +kernel) (by decide +kernel)
theorem wcX6_62 : Cond.constantLong RX6 62 (6) ∈ TB := tb_t 823 (by decide +kernel) (by decide +kernel)
theorem wcX6_112 : Cond.constantLong RX6 112 (7) ∈ TB := tb_t 852 (by decide +kernel) (by decide +kernel)
theorem wcX6_120 : Cond.constantLong RX6 120 (9999) ∈ TB := tb_t 883 (by decide +kernel) (by decide +kernel)
theorem wcX6_141 : Cond.constantLong RX6 141 (20) ∈ TB := tb_t 914 (by decide +kernel) (by decide +kernel)
theorem wcX6_143 : Cond.constantLong RX6 143 (2) ∈ TB := tb_t 919 (by decide +kernel) (by decide +kernel)
theorem wcX6_170 : Cond.constantLong RX6 170 (60) ∈ TB := tb_t 963 (by decide +kernel) (by decide +kernel)
theorem wcX6_192 : Cond.constantLong RX6 192 (8) ∈ TB := tb_t 1043 (by decide +kernel) (by decide +kernel)
theorem wcX6_217 : Cond.constantLong RX6 217 (14) ∈ TB := tb_t 1121 (by decide +kernel) (by decide +kernel)
theorem wcX6_219 : Cond.constantLong RX6 219 (4) ∈ TB := tb_t 1130 (by decide +kernel) (by decide +kernel)
theorem wcX6_316 : Cond.constantLong RX6 316 (3) ∈ TB := tb_t 1091 (by decide +kernel) (by decide +kernel)
theorem wcX6_330 : Cond.constantLong RX6 330 (-1) ∈ TB := tb_t 1265 (by decide +kernel) (by decide +kernel)
theorem wmX5_9 : Cond.methodLink RX5 9 yX1_init ∈ TB := tb_t 25 (by decide +kernel) (by decide +kernel)
theorem wmX5_28 : Cond.methodLinkNest RX5 28 yX4_init "LaughTax" ∈ TB := tb_t 113 (by decide +kernel) (by decide +kernel)
theorem wmX5_35 : Cond.methodLinkNest RX5 35 yX3_init "LaughTax" ∈ TB := tb_t 132 (by decide +kernel) (by decide +kernel)
theorem wmX5_46 : Cond.methodLinkNest RX5 46 yX2_init "LaughTax" ∈ TB := tb_t 163 (by decide +kernel) (by decide +kernel)
theorem wmX5_51 : Cond.methodLink RX5 51 yX5_isKind ∈ TB := tb_t 209 (by decide +kernel) (by decide +kernel)
theorem wmX5_55 : Cond.methodLink RX5 55 yX5_isSeat ∈ TB := tb_t 215 (by decide +kernel) (by decide +kernel)
theorem wmX5_59 : Cond.methodLink RX5 59 yX5_found ∈ TB := tb_t 219 (by decide +kernel) (by decide +kernel)
theorem wmX5_68 : Cond.methodLink RX5 68 yX1_addPerson ∈ TB := tb_t 224 (by decide +kernel) (by decide +kernel)
theorem wmX5_72 : Cond.methodLink RX5 72 yX5_hasPerson ∈ TB := tb_t 239 (by decide +kernel) (by decide +kernel)
theorem wmX5_90 : Cond.methodLink RX5 90 yX0_bound ∈ TB := tb_t 243 (by decide +kernel) (by decide +kernel)
theorem wmX5_95 : Cond.methodLink RX5 95 yX0_number ∈ TB := tb_t 249 (by decide +kernel) (by decide +kernel)
theorem wmX5_101 : Cond.methodLink RX5 101 yJ6_bitCount_0f7a4 ∈ TB := tb_t 252 (by decide +kernel) (by decide +kernel)
theorem wmX5_106 : Cond.methodLink RX5 106 yX5_canBecome ∈ TB := tb_t 262 (by decide +kernel) (by decide +kernel)
theorem wmX5_110 : Cond.methodLink RX5 110 yX5_replace ∈ TB := tb_t 265 (by decide +kernel) (by decide +kernel)
theorem wmX5_114 : Cond.methodLink RX5 114 yX5_moveTo ∈ TB := tb_t 268 (by decide +kernel) (by decide +kernel)
theorem wmX5_117 : Cond.methodLink RX5 117 yX5_isTopics ∈ TB := tb_t 280 (by decide +kernel) (by decide +kernel)
theorem wmX5_120 : Cond.methodLink RX5 120 yX5_isFun ∈ TB := tb_t 283 (by decide +kernel) (by decide +kernel)
theorem wmX5_126 : Cond.methodLink RX5 126 yX1_addJoke ∈ TB := tb_t 286 (by decide +kernel) (by decide +kernel)
theorem wmX5_129 : Cond.methodLink RX5 129 yX5_hasJoke ∈ TB := tb_t 294 (by decide +kernel) (by decide +kernel)
theorem wmX5_132 : Cond.methodLink RX5 132 yX5_within ∈ TB := tb_t 212 (by decide +kernel) (by decide +kernel)
theorem wmX5_148 : Cond.methodLink RX5 148 yX1_setReach ∈ TB := tb_t 302 (by decide +kernel) (by decide +kernel)
theorem wmX5_152 : Cond.methodLink RX5 152 yX1_strengthFor ∈ TB := tb_t 310 (by decide +kernel) (by decide +kernel)
theorem wmX5_156 : Cond.methodLink RX5 156 yX0_seconds ∈ TB := tb_t 315 (by decide +kernel) (by decide +kernel)
theorem wmX5_159 : Cond.methodLink RX5 159 yX1_dueFrom ∈ TB := tb_t 321 (by decide +kernel) (by decide +kernel)
theorem wmX5_167 : Cond.methodLink RX5 167 yX4_perform ∈ TB := tb_t 332 (by decide +kernel) (by decide +kernel)
theorem wmX5_171 : Cond.methodLink RX5 171 yX4_performOften ∈ TB := tb_t 380 (by decide +kernel) (by decide +kernel)
theorem wmX5_178 : Cond.methodLink RX5 178 yX1_together ∈ TB := tb_t 389 (by decide +kernel) (by decide +kernel)
theorem wmX5_183 : Cond.methodLink RX5 183 yJ9_min_7cf53 ∈ TB := tb_t 398 (by decide +kernel) (by decide +kernel)
theorem wmX5_188 : Cond.methodLink RX5 188 yX1_poorest ∈ TB := tb_t 399 (by decide +kernel) (by decide +kernel)
theorem wmX5_192 : Cond.methodLink RX5 192 yX4_startersOf ∈ TB := tb_t 407 (by decide +kernel) (by decide +kernel)
theorem wmX5_195 : Cond.methodLink RX5 195 yX4_laughersOf ∈ TB := tb_t 408 (by decide +kernel) (by decide +kernel)
theorem wmX5_201 : Cond.methodLink RX5 201 yX1_takeOver ∈ TB := tb_t 417 (by decide +kernel) (by decide +kernel)
theorem wmX5_208 : Cond.methodLink RX5 208 yX1_everybody ∈ TB := tb_t 440 (by decide +kernel) (by decide +kernel)
theorem wmX5_211 : Cond.methodLink RX5 211 yX4_spread ∈ TB := tb_t 441 (by decide +kernel) (by decide +kernel)
theorem wmX5_214 : Cond.methodLink RX5 214 yX5_isSmaller ∈ TB := tb_t 450 (by decide +kernel) (by decide +kernel)
theorem wmX5_217 : Cond.methodLink RX5 217 yX1_setSeat ∈ TB := tb_t 272 (by decide +kernel) (by decide +kernel)
theorem wmX5_221 : Cond.methodLink RX5 221 yX5_laughingAt ∈ TB := tb_t 477 (by decide +kernel) (by decide +kernel)
theorem wmX5_224 : Cond.methodLink RX5 224 yX5_paymentsFinding ∈ TB := tb_t 493 (by decide +kernel) (by decide +kernel)
theorem wmX5_227 : Cond.methodLink RX5 227 yX5_fits ∈ TB := tb_t 506 (by decide +kernel) (by decide +kernel)
theorem wmX5_231 : Cond.methodLink RX5 231 yX5_sheetFinding ∈ TB := tb_t 497 (by decide +kernel) (by decide +kernel)
theorem wmX5_234 : Cond.methodLink RX5 234 yX2_tellsFirst ∈ TB := tb_t 522 (by decide +kernel) (by decide +kernel)
theorem wmX5_238 : Cond.methodLink RX5 238 yX1_drawBelow ∈ TB := tb_t 532 (by decide +kernel) (by decide +kernel)
theorem wmX5_241 : Cond.methodLink RX5 241 yX5_inLowestTerms ∈ TB := tb_t 541 (by decide +kernel) (by decide +kernel)
theorem wmX5_244 : Cond.methodLink RX5 244 yX5_power ∈ TB := tb_t 545 (by decide +kernel) (by decide +kernel)
theorem wmX5_254 : Cond.methodLink RX5 254 yX3_put ∈ TB := tb_t 556 (by decide +kernel) (by decide +kernel)
theorem wmX5_258 : Cond.methodLink RX5 258 yX3_readInto ∈ TB := tb_t 568 (by decide +kernel) (by decide +kernel)
theorem wmX5_266 : Cond.methodLink RX5 266 yX0_isA ∈ TB := tb_t 690 (by decide +kernel) (by decide +kernel)
theorem wmX5_271 : Cond.methodLink RX5 271 yX2_begin ∈ TB := tb_t 701 (by decide +kernel) (by decide +kernel)
theorem wmX5_275 : Cond.methodLink RX5 275 yX2_put ∈ TB := tb_t 709 (by decide +kernel) (by decide +kernel)
theorem wmX5_277 : Cond.methodLink RX5 277 yX2_isMissing ∈ TB := tb_t 501 (by decide +kernel) (by decide +kernel)
theorem wmX5_284 : Cond.methodLink RX5 284 yX2_has ∈ TB := tb_t 717 (by decide +kernel) (by decide +kernel)
theorem wmX5_296 : Cond.methodLink RX5 296 yX5_isIn ∈ TB := tb_t 730 (by decide +kernel) (by decide +kernel)
theorem wmX5_302 : Cond.methodLink RX5 302 yX1_spotsHolding ∈ TB := tb_t 747 (by decide +kernel) (by decide +kernel)
theorem wmX5_305 : Cond.methodLink RX5 305 yX2_tells ∈ TB := tb_t 510 (by decide +kernel) (by decide +kernel)
theorem wmX5_308 : Cond.methodLink RX5 308 yJ9_max_7cf53 ∈ TB := tb_t 544 (by decide +kernel) (by decide +kernel)
theorem wmX0_15 : Cond.methodLink RX0 15 yJ9_min_7cf53 ∈ TB := tb_t 246 (by decide +kernel) (by decide +kernel)
theorem wmX0_21 : Cond.methodLink RX0 21 yJ9_max_7cf53 ∈ TB := tb_t 318 (by decide +kernel) (by decide +kernel)
theorem wmX1_67 : Cond.methodLink RX1 67 yX1_renewNear ∈ TB := tb_t 228 (by decide +kernel) (by decide +kernel)
theorem wmX1_70 : Cond.methodLink RX1 70 yJ9_abs_0f7a4 ∈ TB := tb_t 232 (by decide +kernel) (by decide +kernel)
theorem wmX1_76 : Cond.methodLink RX1 76 yJ6_bitCount_0f7a4 ∈ TB := tb_t 314 (by decide +kernel) (by decide +kernel)
theorem wmX1_81 : Cond.methodLink RX1 81 yX0_seconds ∈ TB := tb_t 325 (by decide +kernel) (by decide +kernel)
theorem wmX2_22 : Cond.methodLink RX2 22 yJ9_min_7cf53 ∈ TB := tb_t 526 (by decide +kernel) (by decide +kernel)
theorem wmX2_28 : Cond.methodLink RX2 28 yX2_tells ∈ TB := tb_t 527 (by decide +kernel) (by decide +kernel)
theorem wmX3_22 : Cond.methodLink RX3 22 yX3_step ∈ TB := tb_t 572 (by decide +kernel) (by decide +kernel)
theorem wmX3_25 : Cond.methodLink RX3 25 yX3_readItem ∈ TB := tb_t 580 (by decide +kernel) (by decide +kernel)
theorem wmX3_35 : Cond.methodLink RX3 35 yX3_wordOf ∈ TB := tb_t 584 (by decide +kernel) (by decide +kernel)
theorem wmX3_39 : Cond.methodLink RX3 39 yX3_isWord ∈ TB := tb_t 594 (by decide +kernel) (by decide +kernel)
theorem wmX3_43 : Cond.methodLink RX3 43 yX3_readPerson ∈ TB := tb_t 646 (by decide +kernel) (by decide +kernel)
theorem wmX3_49 : Cond.methodLink RX3 49 yX3_readJoke ∈ TB := tb_t 666 (by decide +kernel) (by decide +kernel)
theorem wmX3_54 : Cond.methodLink RX3 54 yX3_readRate ∈ TB := tb_t 672 (by decide +kernel) (by decide +kernel)
theorem wmX3_59 : Cond.methodLink RX3 59 yX3_readReach ∈ TB := tb_t 677 (by decide +kernel) (by decide +kernel)
theorem wmX3_67 : Cond.methodLink RX3 67 yX1_addPerson ∈ TB := tb_t 650 (by decide +kernel) (by decide +kernel)
theorem wmX3_77 : Cond.methodLink RX3 77 yX3_readPart ∈ TB := tb_t 652 (by decide +kernel) (by decide +kernel)
theorem wmX3_84 : Cond.methodLink RX3 84 yX1_setSeat ∈ TB := tb_t 661 (by decide +kernel) (by decide +kernel)
theorem wmX3_103 : Cond.methodLink RX3 103 yX3_readNumber ∈ TB := tb_t 656 (by decide +kernel) (by decide +kernel)
theorem wmX3_107 : Cond.methodLink RX3 107 yX1_addJoke ∈ TB := tb_t 670 (by decide +kernel) (by decide +kernel)
theorem wmX3_112 : Cond.methodLink RX3 112 yX1_setReach ∈ TB := tb_t 681 (by decide +kernel) (by decide +kernel)
theorem wmX3_119 : Cond.methodLinkNest RX3 119 yX5_within "LaughTax" ∈ TB := tb_t 660 (by decide +kernel) (by decide +kernel)
theorem wmX3_123 : Cond.methodLink RX3 123 yJ0_length_8abf5 ∈ TB := tb_t 598 (by decide +kernel) (by decide +kernel)
theorem wmX3_128 : Cond.methodLink RX3 128 yJ0_charAt_5068e ∈ TB := tb_t 608 (by decide +kernel) (by decide +kernel)
theorem wmX3_146 : Cond.methodLink RX3 146 yX3_tokenOf ∈ TB := tb_t 576 (by decide +kernel) (by decide +kernel)
theorem wmX3_150 : Cond.methodLink RX3 150 yJ9_min_7cf53 ∈ TB := tb_t 579 (by decide +kernel) (by decide +kernel)
theorem wmX4_24 : Cond.methodLink RX4 24 yX1_strengthFor ∈ TB := tb_t 344 (by decide +kernel) (by decide +kernel)
theorem wmX4_34 : Cond.methodLink RX4 34 yX0_bound ∈ TB := tb_t 345 (by decide +kernel) (by decide +kernel)
theorem wmX4_46 : Cond.methodLink RX4 46 yX4_startersOf ∈ TB := tb_t 340 (by decide +kernel) (by decide +kernel)
theorem wmX4_50 : Cond.methodLink RX4 50 yX1_everybody ∈ TB := tb_t 346 (by decide +kernel) (by decide +kernel)
theorem wmX4_54 : Cond.methodLink RX4 54 yX4_spread ∈ TB := tb_t 350 (by decide +kernel) (by decide +kernel)
theorem wmX4_60 : Cond.methodLink RX4 60 yX4_noteRound ∈ TB := tb_t 354 (by decide +kernel) (by decide +kernel)
theorem wmX4_64 : Cond.methodLink RX4 64 yX4_catchersFrom ∈ TB := tb_t 361 (by decide +kernel) (by decide +kernel)
theorem wmX4_70 : Cond.methodLink RX4 70 yJ6_bitCount_0f7a4 ∈ TB := tb_t 365 (by decide +kernel) (by decide +kernel)
theorem wmX4_76 : Cond.methodLinkNest RX4 76 yX5_isIn "LaughTax" ∈ TB := tb_t 358 (by decide +kernel) (by decide +kernel)
theorem wmX4_83 : Cond.methodLink RX4 83 yX0_number ∈ TB := tb_t 366 (by decide +kernel) (by decide +kernel)
theorem wmX4_86 : Cond.methodLink RX4 86 yX4_laughersOf ∈ TB := tb_t 336 (by decide +kernel) (by decide +kernel)
theorem wmX4_90 : Cond.methodLink RX4 90 yX1_dueFrom ∈ TB := tb_t 367 (by decide +kernel) (by decide +kernel)
theorem wmX4_93 : Cond.methodLink RX4 93 yX4_collect ∈ TB := tb_t 368 (by decide +kernel) (by decide +kernel)
theorem wmX4_96 : Cond.methodLink RX4 96 yJ9_min_7cf53 ∈ TB := tb_t 373 (by decide +kernel) (by decide +kernel)
theorem wmX4_101 : Cond.methodLink RX4 101 yJ9_max_7cf53 ∈ TB := tb_t 374 (by decide +kernel) (by decide +kernel)
theorem wmX4_112 : Cond.methodLink RX4 112 yX4_perform ∈ TB := tb_t 384 (by decide +kernel) (by decide +kernel)
theorem wmL_9 : Cond.methodLink RL 9 yX5_init ∈ TB := tb_t 17 (by decide +kernel) (by decide +kernel)
theorem wmL_12 : Cond.methodLink RL 12 yX6_init ∈ TB := tb_t 757 (by decide +kernel) (by decide +kernel)
theorem wmL_13 : Cond.methodLink RL 13 yX5_person ∈ TB := tb_t 205 (by decide +kernel) (by decide +kernel)
theorem wmL_17 : Cond.methodLink RL 17 yX6_person ∈ TB := tb_t 816 (by decide +kernel) (by decide +kernel)
theorem wmL_18 : Cond.methodLink RL 18 yX5_of ∈ TB := tb_t 235 (by decide +kernel) (by decide +kernel)
theorem wmL_21 : Cond.methodLink RL 21 yX6_of ∈ TB := tb_t 844 (by decide +kernel) (by decide +kernel)
theorem wmL_22 : Cond.methodLink RL 22 yX5_change ∈ TB := tb_t 258 (by decide +kernel) (by decide +kernel)
theorem wmL_26 : Cond.methodLink RL 26 yX6_change ∈ TB := tb_t 874 (by decide +kernel) (by decide +kernel)
theorem wmL_27 : Cond.methodLink RL 27 yX5_joke ∈ TB := tb_t 276 (by decide +kernel) (by decide +kernel)
theorem wmL_30 : Cond.methodLink RL 30 yX6_joke ∈ TB := tb_t 888 (by decide +kernel) (by decide +kernel)
theorem wmL_31 : Cond.methodLink RL 31 yX5_jokeOf ∈ TB := tb_t 290 (by decide +kernel) (by decide +kernel)
theorem wmL_34 : Cond.methodLink RL 34 yX6_jokeOf ∈ TB := tb_t 902 (by decide +kernel) (by decide +kernel)
theorem wmL_35 : Cond.methodLink RL 35 yX5_law ∈ TB := tb_t 298 (by decide +kernel) (by decide +kernel)
theorem wmL_38 : Cond.methodLink RL 38 yX6_law ∈ TB := tb_t 910 (by decide +kernel) (by decide +kernel)
theorem wmL_39 : Cond.methodLink RL 39 yX5_strength ∈ TB := tb_t 306 (by decide +kernel) (by decide +kernel)
theorem wmL_42 : Cond.methodLink RL 42 yX6_strength ∈ TB := tb_t 915 (by decide +kernel) (by decide +kernel)
theorem wmL_43 : Cond.methodLink RL 43 yX5_tell ∈ TB := tb_t 326 (by decide +kernel) (by decide +kernel)
theorem wmL_47 : Cond.methodLink RL 47 yX6_tell ∈ TB := tb_t 933 (by decide +kernel) (by decide +kernel)
theorem wmL_48 : Cond.methodLink RL 48 yX5_evening ∈ TB := tb_t 376 (by decide +kernel) (by decide +kernel)
theorem wmL_51 : Cond.methodLink RL 51 yX6_evening ∈ TB := tb_t 959 (by decide +kernel) (by decide +kernel)
theorem wmL_52 : Cond.methodLink RL 52 yX5_now ∈ TB := tb_t 385 (by decide +kernel) (by decide +kernel)
theorem wmL_55 : Cond.methodLink RL 55 yX6_now ∈ TB := tb_t 964 (by decide +kernel) (by decide +kernel)
theorem wmL_56 : Cond.methodLink RL 56 yX5_relief ∈ TB := tb_t 393 (by decide +kernel) (by decide +kernel)
theorem wmL_59 : Cond.methodLink RL 59 yX6_relief ∈ TB := tb_t 972 (by decide +kernel) (by decide +kernel)
theorem wmL_60 : Cond.methodLink RL 60 yX5_laugh ∈ TB := tb_t 403 (by decide +kernel) (by decide +kernel)
theorem wmL_63 : Cond.methodLink RL 63 yX6_laugh ∈ TB := tb_t 980 (by decide +kernel) (by decide +kernel)
theorem wmL_64 : Cond.methodLink RL 64 yX5_rounds ∈ TB := tb_t 409 (by decide +kernel) (by decide +kernel)
theorem wmL_67 : Cond.methodLink RL 67 yX6_rounds ∈ TB := tb_t 988 (by decide +kernel) (by decide +kernel)
theorem wmL_68 : Cond.methodLink RL 68 yX5_raised ∈ TB := tb_t 413 (by decide +kernel) (by decide +kernel)
theorem wmL_71 : Cond.methodLink RL 71 yX6_raised ∈ TB := tb_t 992 (by decide +kernel) (by decide +kernel)
theorem wmL_72 : Cond.methodLink RL 72 yX5_ahead ∈ TB := tb_t 424 (by decide +kernel) (by decide +kernel)
theorem wmL_75 : Cond.methodLink RL 75 yX6_ahead ∈ TB := tb_t 1011 (by decide +kernel) (by decide +kernel)
theorem wmL_76 : Cond.methodLink RL 76 yX5_stale ∈ TB := tb_t 428 (by decide +kernel) (by decide +kernel)
theorem wmL_79 : Cond.methodLink RL 79 yX6_stale ∈ TB := tb_t 1015 (by decide +kernel) (by decide +kernel)
theorem wmL_80 : Cond.methodLink RL 80 yX5_broke ∈ TB := tb_t 432 (by decide +kernel) (by decide +kernel)
theorem wmL_83 : Cond.methodLink RL 83 yX6_broke ∈ TB := tb_t 1023 (by decide +kernel) (by decide +kernel)
theorem wmL_84 : Cond.methodLink RL 84 yX5_caught ∈ TB := tb_t 436 (by decide +kernel) (by decide +kernel)
theorem wmL_87 : Cond.methodLink RL 87 yX6_caught ∈ TB := tb_t 1027 (by decide +kernel) (by decide +kernel)
theorem wmL_88 : Cond.methodLink RL 88 yX5_starter ∈ TB := tb_t 442 (by decide +kernel) (by decide +kernel)
theorem wmL_92 : Cond.methodLink RL 92 yX6_starter ∈ TB := tb_t 1031 (by decide +kernel) (by decide +kernel)
theorem wmL_93 : Cond.methodLink RL 93 yX5_fewest ∈ TB := tb_t 446 (by decide +kernel) (by decide +kernel)
theorem wmL_96 : Cond.methodLink RL 96 yX6_fewest ∈ TB := tb_t 1035 (by decide +kernel) (by decide +kernel)
theorem wmL_97 : Cond.methodLink RL 97 yX5_away ∈ TB := tb_t 453 (by decide +kernel) (by decide +kernel)
theorem wmL_100 : Cond.methodLink RL 100 yX6_away ∈ TB := tb_t 1039 (by decide +kernel) (by decide +kernel)
theorem wmL_101 : Cond.methodLink RL 101 yX5_seatFor ∈ TB := tb_t 457 (by decide +kernel) (by decide +kernel)
theorem wmL_104 : Cond.methodLink RL 104 yX6_seatFor ∈ TB := tb_t 1048 (by decide +kernel) (by decide +kernel)
theorem wmL_105 : Cond.methodLink RL 105 yX5_kindFor ∈ TB := tb_t 461 (by decide +kernel) (by decide +kernel)
theorem wmL_108 : Cond.methodLink RL 108 yX6_kindFor ∈ TB := tb_t 1052 (by decide +kernel) (by decide +kernel)
theorem wmL_109 : Cond.methodLink RL 109 yX5_reachFor ∈ TB := tb_t 465 (by decide +kernel) (by decide +kernel)
theorem wmL_112 : Cond.methodLink RL 112 yX6_reachFor ∈ TB := tb_t 1056 (by decide +kernel) (by decide +kernel)
theorem wmL_113 : Cond.methodLink RL 113 yX5_rateFor ∈ TB := tb_t 469 (by decide +kernel) (by decide +kernel)
theorem wmL_116 : Cond.methodLink RL 116 yX6_rateFor ∈ TB := tb_t 1060 (by decide +kernel) (by decide +kernel)
theorem wmL_117 : Cond.methodLink RL 117 yX5_best ∈ TB := tb_t 473 (by decide +kernel) (by decide +kernel)
theorem wmL_120 : Cond.methodLink RL 120 yX6_best ∈ TB := tb_t 1064 (by decide +kernel) (by decide +kernel)
theorem wmL_121 : Cond.methodLink RL 121 yX5_quiet ∈ TB := tb_t 481 (by decide +kernel) (by decide +kernel)
theorem wmL_124 : Cond.methodLink RL 124 yX6_quiet ∈ TB := tb_t 1068 (by decide +kernel) (by decide +kernel)
theorem wmL_125 : Cond.methodLink RL 125 yX5_safe ∈ TB := tb_t 485 (by decide +kernel) (by decide +kernel)
theorem wmL_128 : Cond.methodLink RL 128 yX6_safe ∈ TB := tb_t 1072 (by decide +kernel) (by decide +kernel)
theorem wmL_129 : Cond.methodLink RL 129 yX5_tastes ∈ TB := tb_t 489 (by decide +kernel) (by decide +kernel)
theorem wmL_132 : Cond.methodLink RL 132 yX6_tastes ∈ TB := tb_t 1076 (by decide +kernel) (by decide +kernel)
theorem wmL_133 : Cond.methodLink RL 133 yX5_taste ∈ TB := tb_t 514 (by decide +kernel) (by decide +kernel)
theorem wmL_136 : Cond.methodLink RL 136 yX6_taste ∈ TB := tb_t 1100 (by decide +kernel) (by decide +kernel)
theorem wmL_137 : Cond.methodLink RL 137 yX5_which ∈ TB := tb_t 518 (by decide +kernel) (by decide +kernel)
theorem wmL_140 : Cond.methodLink RL 140 yX6_which ∈ TB := tb_t 1104 (by decide +kernel) (by decide +kernel)
theorem wmL_141 : Cond.methodLink RL 141 yX5_shows ∈ TB := tb_t 528 (by decide +kernel) (by decide +kernel)
theorem wmL_144 : Cond.methodLink RL 144 yX6_shows ∈ TB := tb_t 1108 (by decide +kernel) (by decide +kernel)
theorem wmL_145 : Cond.methodLink RL 145 yX5_odds ∈ TB := tb_t 537 (by decide +kernel) (by decide +kernel)
theorem wmL_149 : Cond.methodLink RL 149 yX6_odds ∈ TB := tb_t 1117 (by decide +kernel) (by decide +kernel)
theorem wmL_150 : Cond.methodLink RL 150 yX5_seed ∈ TB := tb_t 548 (by decide +kernel) (by decide +kernel)
theorem wmL_153 : Cond.methodLink RL 153 yX6_seed ∈ TB := tb_t 1122 (by decide +kernel) (by decide +kernel)
theorem wmL_154 : Cond.methodLink RL 154 yX5_feed ∈ TB := tb_t 552 (by decide +kernel) (by decide +kernel)
theorem wmL_157 : Cond.methodLink RL 157 yX6_feed ∈ TB := tb_t 1126 (by decide +kernel) (by decide +kernel)
theorem wmL_158 : Cond.methodLink RL 158 yX5_wipe ∈ TB := tb_t 560 (by decide +kernel) (by decide +kernel)
theorem wmL_161 : Cond.methodLink RL 161 yX6_wipe ∈ TB := tb_t 1131 (by decide +kernel) (by decide +kernel)
theorem wmL_162 : Cond.methodLink RL 162 yX5_text ∈ TB := tb_t 564 (by decide +kernel) (by decide +kernel)
theorem wmL_165 : Cond.methodLink RL 165 yX6_text ∈ TB := tb_t 1135 (by decide +kernel) (by decide +kernel)
theorem wmL_166 : Cond.methodLink RL 166 yX5_hold ∈ TB := tb_t 682 (by decide +kernel) (by decide +kernel)
theorem wmL_169 : Cond.methodLink RL 169 yX6_hold ∈ TB := tb_t 1200 (by decide +kernel) (by decide +kernel)
theorem wmL_170 : Cond.methodLink RL 170 yX5_as ∈ TB := tb_t 686 (by decide +kernel) (by decide +kernel)
theorem wmL_173 : Cond.methodLink RL 173 yX6_as ∈ TB := tb_t 1207 (by decide +kernel) (by decide +kernel)
theorem wmL_174 : Cond.methodLink RL 174 yX5_sheet ∈ TB := tb_t 696 (by decide +kernel) (by decide +kernel)
theorem wmL_177 : Cond.methodLink RL 177 yX6_sheet ∈ TB := tb_t 1217 (by decide +kernel) (by decide +kernel)
theorem wmL_178 : Cond.methodLink RL 178 yX5_write ∈ TB := tb_t 705 (by decide +kernel) (by decide +kernel)
theorem wmL_181 : Cond.methodLink RL 181 yX6_write ∈ TB := tb_t 1221 (by decide +kernel) (by decide +kernel)
theorem wmL_182 : Cond.methodLink RL 182 yX5_copy ∈ TB := tb_t 713 (by decide +kernel) (by decide +kernel)
theorem wmL_186 : Cond.methodLink RL 186 yX6_copy ∈ TB := tb_t 1225 (by decide +kernel) (by decide +kernel)
theorem wmL_187 : Cond.methodLink RL 187 yX5_load ∈ TB := tb_t 722 (by decide +kernel) (by decide +kernel)
theorem wmL_190 : Cond.methodLink RL 190 yX6_load ∈ TB := tb_t 1229 (by decide +kernel) (by decide +kernel)
theorem wmL_191 : Cond.methodLink RL 191 yX5_judge ∈ TB := tb_t 726 (by decide +kernel) (by decide +kernel)
theorem wmL_194 : Cond.methodLink RL 194 yX6_judge ∈ TB := tb_t 1233 (by decide +kernel) (by decide +kernel)
theorem wmL_195 : Cond.methodLink RL 195 yX5_image ∈ TB := tb_t 731 (by decide +kernel) (by decide +kernel)
theorem wmL_198 : Cond.methodLink RL 198 yX6_image ∈ TB := tb_t 1241 (by decide +kernel) (by decide +kernel)
theorem wmL_199 : Cond.methodLink RL 199 yX5_undo ∈ TB := tb_t 735 (by decide +kernel) (by decide +kernel)
theorem wmL_202 : Cond.methodLink RL 202 yX6_undo ∈ TB := tb_t 1245 (by decide +kernel) (by decide +kernel)
theorem wmL_203 : Cond.methodLink RL 203 yX5_tear ∈ TB := tb_t 739 (by decide +kernel) (by decide +kernel)
theorem wmL_206 : Cond.methodLink RL 206 yX6_tear ∈ TB := tb_t 1249 (by decide +kernel) (by decide +kernel)
theorem wmL_207 : Cond.methodLink RL 207 yX5_count ∈ TB := tb_t 743 (by decide +kernel) (by decide +kernel)
theorem wmL_210 : Cond.methodLink RL 210 yX6_count ∈ TB := tb_t 1253 (by decide +kernel) (by decide +kernel)
theorem wmL_211 : Cond.methodLink RL 211 yX5_status ∈ TB := tb_t 751 (by decide +kernel) (by decide +kernel)
theorem wmL_214 : Cond.methodLink RL 214 yX6_status ∈ TB := tb_t 1261 (by decide +kernel) (by decide +kernel)
theorem wmX6_44 : Cond.methodLink RX6 44 yX6_become ∈ TB := tb_t 1000 (by decide +kernel) (by decide +kernel)
theorem wmX6_48 : Cond.methodLink RX6 48 yX6_in ∈ TB := tb_t 824 (by decide +kernel) (by decide +kernel)
theorem wmX6_58 : Cond.methodLink RX6 58 yX6_aboveOf ∈ TB := tb_t 1214 (by decide +kernel) (by decide +kernel)
theorem wmX6_64 : Cond.methodLink RX6 64 yX6_its ∈ TB := tb_t 857 (by decide +kernel) (by decide +kernel)
theorem wmX6_68 : Cond.methodLink RX6 68 yJ9_min_7cf53 ∈ TB := tb_t 861 (by decide +kernel) (by decide +kernel)
theorem wmX6_73 : Cond.methodLink RX6 73 yJ9_abs_0f7a4 ∈ TB := tb_t 870 (by decide +kernel) (by decide +kernel)
theorem wmX6_76 : Cond.methodLink RX6 76 yX6_ones ∈ TB := tb_t 871 (by decide +kernel) (by decide +kernel)
theorem wmX6_79 : Cond.methodLink RX6 79 yX6_strong ∈ TB := tb_t 920 (by decide +kernel) (by decide +kernel)
theorem wmX6_83 : Cond.methodLink RX6 83 yJ9_max_7cf53 ∈ TB := tb_t 928 (by decide +kernel) (by decide +kernel)
theorem wmX6_86 : Cond.methodLink RX6 86 yX6_seconds ∈ TB := tb_t 924 (by decide +kernel) (by decide +kernel)
theorem wmX6_89 : Cond.methodLink RX6 89 yX6_near ∈ TB := tb_t 866 (by decide +kernel) (by decide +kernel)
theorem wmX6_92 : Cond.methodLink RX6 92 yX6_sets ∈ TB := tb_t 840 (by decide +kernel) (by decide +kernel)
theorem wmX6_96 : Cond.methodLink RX6 96 yX6_isKind ∈ TB := tb_t 820 (by decide +kernel) (by decide +kernel)
theorem wmX6_100 : Cond.methodLink RX6 100 yX6_isSeat ∈ TB := tb_t 827 (by decide +kernel) (by decide +kernel)
theorem wmX6_103 : Cond.methodLink RX6 103 yX6_finds ∈ TB := tb_t 831 (by decide +kernel) (by decide +kernel)
theorem wmX6_106 : Cond.methodLink RX6 106 yX6_adds ∈ TB := tb_t 836 (by decide +kernel) (by decide +kernel)
theorem wmX6_109 : Cond.methodLink RX6 109 yX6_isPerson ∈ TB := tb_t 848 (by decide +kernel) (by decide +kernel)
theorem wmX6_114 : Cond.methodLink RX6 114 yX6_bound ∈ TB := tb_t 853 (by decide +kernel) (by decide +kernel)
theorem wmX6_117 : Cond.methodLink RX6 117 yX6_numberOf ∈ TB := tb_t 862 (by decide +kernel) (by decide +kernel)
theorem wmX6_122 : Cond.methodLink RX6 122 yX6_mayBe ∈ TB := tb_t 878 (by decide +kernel) (by decide +kernel)
theorem wmX6_126 : Cond.methodLink RX6 126 yX6_becomes ∈ TB := tb_t 884 (by decide +kernel) (by decide +kernel)
theorem wmX6_129 : Cond.methodLink RX6 129 yX6_isTopics ∈ TB := tb_t 892 (by decide +kernel) (by decide +kernel)
theorem wmX6_132 : Cond.methodLink RX6 132 yX6_isFun ∈ TB := tb_t 895 (by decide +kernel) (by decide +kernel)
theorem wmX6_135 : Cond.methodLink RX6 135 yX6_addsJoke ∈ TB := tb_t 898 (by decide +kernel) (by decide +kernel)
theorem wmX6_138 : Cond.methodLink RX6 138 yX6_isJoke ∈ TB := tb_t 906 (by decide +kernel) (by decide +kernel)
theorem wmX6_145 : Cond.methodLink RX6 145 yX6_due ∈ TB := tb_t 929 (by decide +kernel) (by decide +kernel)
theorem wmX6_152 : Cond.methodLink RX6 152 yX6_byThemselves ∈ TB := tb_t 946 (by decide +kernel) (by decide +kernel)
theorem wmX6_155 : Cond.methodLink RX6 155 yX6_everybody ∈ TB := tb_t 950 (by decide +kernel) (by decide +kernel)
theorem wmX6_159 : Cond.methodLink RX6 159 yX6_caughtFrom ∈ TB := tb_t 954 (by decide +kernel) (by decide +kernel)
theorem wmX6_162 : Cond.methodLink RX6 162 yX6_laughAt ∈ TB := tb_t 942 (by decide +kernel) (by decide +kernel)
theorem wmX6_167 : Cond.methodLink RX6 167 yX6_tells ∈ TB := tb_t 938 (by decide +kernel) (by decide +kernel)
theorem wmX6_172 : Cond.methodLink RX6 172 yX6_sumOf ∈ TB := tb_t 968 (by decide +kernel) (by decide +kernel)
theorem wmX6_175 : Cond.methodLink RX6 175 yX6_poorest ∈ TB := tb_t 976 (by decide +kernel) (by decide +kernel)
theorem wmX6_178 : Cond.methodLink RX6 178 yX6_laughAt_ ∈ TB := tb_t 984 (by decide +kernel) (by decide +kernel)
theorem wmX6_180 : Cond.methodLink RX6 180 yX6_lends ∈ TB := tb_t 996 (by decide +kernel) (by decide +kernel)
theorem wmX6_183 : Cond.methodLink RX6 183 yX6_laysBack ∈ TB := tb_t 1003 (by decide +kernel) (by decide +kernel)
theorem wmX6_186 : Cond.methodLink RX6 186 yX6_allPaid ∈ TB := tb_t 1007 (by decide +kernel) (by decide +kernel)
theorem wmX6_189 : Cond.methodLink RX6 189 yX6_orNone ∈ TB := tb_t 1019 (by decide +kernel) (by decide +kernel)
theorem wmX6_194 : Cond.methodLink RX6 194 yX6_leftWithout ∈ TB := tb_t 1044 (by decide +kernel) (by decide +kernel)
theorem wmX6_200 : Cond.methodLink RX6 200 yX6_paysSo ∈ TB := tb_t 1096 (by decide +kernel) (by decide +kernel)
theorem wmX6_204 : Cond.methodLink RX6 204 yX6_lacks ∈ TB := tb_t 1084 (by decide +kernel) (by decide +kernel)
theorem wmX6_207 : Cond.methodLink RX6 207 yX6_lacksTastes ∈ TB := tb_t 1080 (by decide +kernel) (by decide +kernel)
theorem wmX6_210 : Cond.methodLink RX6 210 yX6_findTastes ∈ TB := tb_t 1092 (by decide +kernel) (by decide +kernel)
theorem wmX6_214 : Cond.methodLink RX6 214 yX6_draw ∈ TB := tb_t 1112 (by decide +kernel) (by decide +kernel)
theorem wmX6_230 : Cond.methodLink RX6 230 yX6_isByte ∈ TB := tb_t 1143 (by decide +kernel) (by decide +kernel)
theorem wmX6_237 : Cond.methodLink RX6 237 yJ0_length_8abf5 ∈ TB := tb_t 1160 (by decide +kernel) (by decide +kernel)
theorem wmX6_242 : Cond.methodLink RX6 242 yJ0_charAt_5068e ∈ TB := tb_t 1161 (by decide +kernel) (by decide +kernel)
theorem wmX6_246 : Cond.methodLink RX6 246 yX6_next ∈ TB := tb_t 1139 (by decide +kernel) (by decide +kernel)
theorem wmX6_249 : Cond.methodLink RX6 249 yX6_isWord ∈ TB := tb_t 1156 (by decide +kernel) (by decide +kernel)
theorem wmX6_253 : Cond.methodLink RX6 253 yX6_must ∈ TB := tb_t 1172 (by decide +kernel) (by decide +kernel)
theorem wmX6_271 : Cond.methodLink RX6 271 yX6_takes ∈ TB := tb_t 1181 (by decide +kernel) (by decide +kernel)
theorem wmX6_274 : Cond.methodLink RX6 274 yX6_numberRead ∈ TB := tb_t 1185 (by decide +kernel) (by decide +kernel)
theorem wmX6_279 : Cond.methodLink RX6 279 yX6_partTold ∈ TB := tb_t 1177 (by decide +kernel) (by decide +kernel)
theorem wmX6_289 : Cond.methodLink RX6 289 yX6_kindHere ∈ TB := tb_t 1151 (by decide +kernel) (by decide +kernel)
theorem wmX6_292 : Cond.methodLink RX6 292 yX6_personTold ∈ TB := tb_t 1168 (by decide +kernel) (by decide +kernel)
theorem wmX6_298 : Cond.methodLink RX6 298 yX6_jokeTold ∈ TB := tb_t 1193 (by decide +kernel) (by decide +kernel)
theorem wmX6_305 : Cond.methodLink RX6 305 yX6_item ∈ TB := tb_t 1147 (by decide +kernel) (by decide +kernel)
theorem wmX6_310 : Cond.methodLink RX6 310 yX6_isSpot ∈ TB := tb_t 1204 (by decide +kernel) (by decide +kernel)
theorem wmX6_313 : Cond.methodLink RX6 313 yX6_isUnder ∈ TB := tb_t 1211 (by decide +kernel) (by decide +kernel)
theorem wmX6_318 : Cond.methodLink RX6 318 yX6_isSheet ∈ TB := tb_t 1088 (by decide +kernel) (by decide +kernel)
theorem wmX6_321 : Cond.methodLink RX6 321 yX6_goesOn ∈ TB := tb_t 1237 (by decide +kernel) (by decide +kernel)
theorem wmX6_327 : Cond.methodLink RX6 327 yX6_held ∈ TB := tb_t 1257 (by decide +kernel) (by decide +kernel)
theorem wmJ0_335 : Cond.methodLink RJ0 335 yJ0_coder_7d493 ∈ TB := tb_t 602 (by decide +kernel) (by decide +kernel)
theorem wmJ0_492 : Cond.methodLink RJ0 492 yJ0_isLatin1_aae02 ∈ TB := tb_t 612 (by decide +kernel) (by decide +kernel)
theorem wmJ0_495 : Cond.methodLink RJ0 495 yJ1_charAt_3b067 ∈ TB := tb_t 616 (by decide +kernel) (by decide +kernel)
theorem wmJ0_498 : Cond.methodLink RJ0 498 yJ2_charAt_3b067 ∈ TB := tb_t 627 (by decide +kernel) (by decide +kernel)
theorem wmJ0_1059 : Cond.methodLink RJ0 1059 yJ3_checkIndex_8e157 ∈ TB := tb_t 624 (by decide +kernel) (by decide +kernel)
theorem wmJ1_9 : Cond.methodLink RJ1 9 yJ0_checkIndex_df160 ∈ TB := tb_t 619 (by decide +kernel) (by decide +kernel)
theorem wmJ2_48 : Cond.methodLink RJ2 48 yJ2_length_9d52b ∈ TB := tb_t 633 (by decide +kernel) (by decide +kernel)
theorem wmJ2_67 : Cond.methodLink RJ2 67 yJ2_checkIndex_2214a ∈ TB := tb_t 630 (by decide +kernel) (by decide +kernel)
theorem wmJ2_71 : Cond.methodLink RJ2 71 yJ2_getChar_3b067 ∈ TB := tb_t 637 (by decide +kernel) (by decide +kernel)
theorem wmJ2_414 : Cond.methodLink RJ2 414 yJ0_checkIndex_df160 ∈ TB := tb_t 636 (by decide +kernel) (by decide +kernel)
theorem cbX5_person : CalB yX5_person cX5_person 3 (some .int) 2 := ⟨tb_t 208 (by decide +kernel) (by decide +kernel), tb_t 1 (by decide +kernel) (by decide +kernel), by decide, by decide, by decide +kernel⟩
theorem cvX5_person : CalV yX5_person cX5_person 3 (some .int) 2 := ⟨cbX5_person, tb_t 206 (by decide +kernel) (by decide +kernel), tb_t 207 (by decide +kernel) (by decide +kernel)⟩
theorem cbX5_isKind : CalB yX5_isKind cX5_isKind 1 (some .boolean) 1 := ⟨tb_t 211 (by decide +kernel) (by decide +kernel), tb_t 1 (by decide +kernel) (by decide +kernel), by decide, by decide, by decide +kernel⟩
theorem csX5_isKind : CalS yX5_isKind cX5_isKind 1 (some .boolean) 1 := ⟨cbX5_isKind, tb_t 210 (by decide +kernel) (by decide +kernel)⟩
theorem cbX5_within : CalB yX5_within cX5_within 3 (some .boolean) 3 := ⟨tb_t 214 (by decide +kernel) (by decide +kernel), tb_t 1 (by decide +kernel) (by decide +kernel), by decide, by decide, by decide +kernel⟩
theorem csX5_within : CalS yX5_within cX5_within 3 (some .boolean) 3 := ⟨cbX5_within, tb_t 213 (by decide +kernel) (by decide +kernel)⟩
theorem cbX5_isSeat : CalB yX5_isSeat cX5_isSeat 1 (some .boolean) 1 := ⟨tb_t 217 (by decide +kernel) (by decide +kernel), tb_t 1 (by decide +kernel) (by decide +kernel), by decide, by decide, by decide +kernel⟩
theorem csX5_isSeat : CalS yX5_isSeat cX5_isSeat 1 (some .boolean) 1 := ⟨cbX5_isSeat, tb_t 216 (by decide +kernel) (by decide +kernel)⟩
theorem cbX5_found : CalB yX5_found cX5_found 3 (some .int) 1 := ⟨tb_t 222 (by decide +kernel) (by decide +kernel), tb_t 1 (by decide +kernel) (by decide +kernel), by decide, by decide, by decide +kernel⟩
theorem cvX5_found : CalV yX5_found cX5_found 3 (some .int) 1 := ⟨cbX5_found, tb_t 221 (by decide +kernel) (by decide +kernel), tb_s 0 (by decide +kernel) (by decide +kernel)⟩
theorem cbX1_addPerson : CalB yX1_addPerson cX1_addPerson 4 (some .int) 2 := ⟨tb_t 227 (by decide +kernel) (by decide +kernel), tb_t 2 (by decide +kernel) (by decide +kernel), by decide, by decide, by decide +kernel⟩
theorem cvX1_addPerson : CalV yX1_addPerson cX1_addPerson 4 (some .int) 2 := ⟨cbX1_addPerson, tb_t 225 (by decide +kernel) (by decide +kernel), tb_t 226 (by decide +kernel) (by decide +kernel)⟩
theorem cbX1_renewNear : CalB yX1_renewNear cX1_renewNear 4 none 0 := ⟨tb_t 231 (by decide +kernel) (by decide +kernel), tb_t 2 (by decide +kernel) (by decide +kernel), by decide, by decide, by decide +kernel⟩
theorem cvX1_renewNear : CalV yX1_renewNear cX1_renewNear 4 none 0 := ⟨cbX1_renewNear, tb_t 230 (by decide +kernel) (by decide +kernel), tb_s 1 (by decide +kernel) (by decide +kernel)⟩
theorem cbJ9_abs_0f7a4 : CalB yJ9_abs_0f7a4 cJ9_abs_0f7a4 1 (some .int) 1 := ⟨tb_t 234 (by decide +kernel) (by decide +kernel), tb_t 7 (by decide +kernel) (by decide +kernel), by decide, by decide, by decide +kernel⟩
theorem csJ9_abs_0f7a4 : CalS yJ9_abs_0f7a4 cJ9_abs_0f7a4 1 (some .int) 1 := ⟨cbJ9_abs_0f7a4, tb_t 233 (by decide +kernel) (by decide +kernel)⟩
theorem cbX5_of : CalB yX5_of cX5_of 3 (some .int) 2 := ⟨tb_t 238 (by decide +kernel) (by decide +kernel), tb_t 1 (by decide +kernel) (by decide +kernel), by decide, by decide, by decide +kernel⟩
theorem cvX5_of : CalV yX5_of cX5_of 3 (some .int) 2 := ⟨cbX5_of, tb_t 236 (by decide +kernel) (by decide +kernel), tb_t 237 (by decide +kernel) (by decide +kernel)⟩
theorem cbX5_hasPerson : CalB yX5_hasPerson cX5_hasPerson 2 (some .boolean) 1 := ⟨tb_t 242 (by decide +kernel) (by decide +kernel), tb_t 1 (by decide +kernel) (by decide +kernel), by decide, by decide, by decide +kernel⟩
theorem cvX5_hasPerson : CalV yX5_hasPerson cX5_hasPerson 2 (some .boolean) 1 := ⟨cbX5_hasPerson, tb_t 241 (by decide +kernel) (by decide +kernel), tb_s 2 (by decide +kernel) (by decide +kernel)⟩
theorem cbX0_bound : CalB yX0_bound cX0_bound 3 (some .int) 2 := ⟨tb_t 245 (by decide +kernel) (by decide +kernel), tb_t 8 (by decide +kernel) (by decide +kernel), by decide, by decide, by decide +kernel⟩
theorem csX0_bound : CalS yX0_bound cX0_bound 3 (some .int) 2 := ⟨cbX0_bound, tb_t 244 (by decide +kernel) (by decide +kernel)⟩
theorem cbJ9_min_7cf53 : CalB yJ9_min_7cf53 cJ9_min_7cf53 2 (some .int) 2 := ⟨tb_t 248 (by decide +kernel) (by decide +kernel), tb_t 7 (by decide +kernel) (by decide +kernel), by decide, by decide, by decide +kernel⟩
theorem csJ9_min_7cf53 : CalS yJ9_min_7cf53 cJ9_min_7cf53 2 (some .int) 2 := ⟨cbJ9_min_7cf53, tb_t 247 (by decide +kernel) (by decide +kernel)⟩
theorem cbX0_number : CalB yX0_number cX0_number 2 (some .int) 2 := ⟨tb_t 251 (by decide +kernel) (by decide +kernel), tb_t 8 (by decide +kernel) (by decide +kernel), by decide, by decide, by decide +kernel⟩
theorem csX0_number : CalS yX0_number cX0_number 2 (some .int) 2 := ⟨cbX0_number, tb_t 250 (by decide +kernel) (by decide +kernel)⟩
theorem cbJ6_bitCount_0f7a4 : CalB yJ6_bitCount_0f7a4 cJ6_bitCount_0f7a4 1 (some .int) 1 := ⟨tb_t 254 (by decide +kernel) (by decide +kernel), tb_t 9 (by decide +kernel) (by decide +kernel), by decide, by decide, by decide +kernel⟩
theorem csJ6_bitCount_0f7a4 : CalS yJ6_bitCount_0f7a4 cJ6_bitCount_0f7a4 1 (some .int) 1 := ⟨cbJ6_bitCount_0f7a4, tb_t 253 (by decide +kernel) (by decide +kernel)⟩
theorem cbX5_change : CalB yX5_change cX5_change 4 (some .int) 3 := ⟨tb_t 261 (by decide +kernel) (by decide +kernel), tb_t 1 (by decide +kernel) (by decide +kernel), by decide, by decide, by decide +kernel⟩
theorem cvX5_change : CalV yX5_change cX5_change 4 (some .int) 3 := ⟨cbX5_change, tb_t 259 (by decide +kernel) (by decide +kernel), tb_t 260 (by decide +kernel) (by decide +kernel)⟩
theorem cbX5_canBecome : CalB yX5_canBecome cX5_canBecome 2 (some .boolean) 2 := ⟨tb_t 264 (by decide +kernel) (by decide +kernel), tb_t 1 (by decide +kernel) (by decide +kernel), by decide, by decide, by decide +kernel⟩
theorem csX5_canBecome : CalS yX5_canBecome cX5_canBecome 2 (some .boolean) 2 := ⟨cbX5_canBecome, tb_t 263 (by decide +kernel) (by decide +kernel)⟩
theorem cbX5_replace : CalB yX5_replace cX5_replace 4 (some .int) 3 := ⟨tb_t 267 (by decide +kernel) (by decide +kernel), tb_t 1 (by decide +kernel) (by decide +kernel), by decide, by decide, by decide +kernel⟩
theorem csX5_replace : CalS yX5_replace cX5_replace 4 (some .int) 3 := ⟨cbX5_replace, tb_t 266 (by decide +kernel) (by decide +kernel)⟩
theorem cbX5_moveTo : CalB yX5_moveTo cX5_moveTo 4 (some .int) 2 := ⟨tb_t 271 (by decide +kernel) (by decide +kernel), tb_t 1 (by decide +kernel) (by decide +kernel), by decide, by decide, by decide +kernel⟩
theorem cvX5_moveTo : CalV yX5_moveTo cX5_moveTo 4 (some .int) 2 := ⟨cbX5_moveTo, tb_t 270 (by decide +kernel) (by decide +kernel), tb_s 3 (by decide +kernel) (by decide +kernel)⟩
theorem cbX1_setSeat : CalB yX1_setSeat cX1_setSeat 3 none 2 := ⟨tb_t 275 (by decide +kernel) (by decide +kernel), tb_t 2 (by decide +kernel) (by decide +kernel), by decide, by decide, by decide +kernel⟩
theorem cvX1_setSeat : CalV yX1_setSeat cX1_setSeat 3 none 2 := ⟨cbX1_setSeat, tb_t 273 (by decide +kernel) (by decide +kernel), tb_t 274 (by decide +kernel) (by decide +kernel)⟩
theorem cbX5_joke : CalB yX5_joke cX5_joke 3 (some .int) 2 := ⟨tb_t 279 (by decide +kernel) (by decide +kernel), tb_t 1 (by decide +kernel) (by decide +kernel), by decide, by decide, by decide +kernel⟩
theorem cvX5_joke : CalV yX5_joke cX5_joke 3 (some .int) 2 := ⟨cbX5_joke, tb_t 277 (by decide +kernel) (by decide +kernel), tb_t 278 (by decide +kernel) (by decide +kernel)⟩
theorem cbX5_isTopics : CalB yX5_isTopics cX5_isTopics 1 (some .boolean) 1 := ⟨tb_t 282 (by decide +kernel) (by decide +kernel), tb_t 1 (by decide +kernel) (by decide +kernel), by decide, by decide, by decide +kernel⟩
theorem csX5_isTopics : CalS yX5_isTopics cX5_isTopics 1 (some .boolean) 1 := ⟨cbX5_isTopics, tb_t 281 (by decide +kernel) (by decide +kernel)⟩
theorem cbX5_isFun : CalB yX5_isFun cX5_isFun 1 (some .boolean) 1 := ⟨tb_t 285 (by decide +kernel) (by decide +kernel), tb_t 1 (by decide +kernel) (by decide +kernel), by decide, by decide, by decide +kernel⟩
theorem csX5_isFun : CalS yX5_isFun cX5_isFun 1 (some .boolean) 1 := ⟨cbX5_isFun, tb_t 284 (by decide +kernel) (by decide +kernel)⟩
theorem cbX1_addJoke : CalB yX1_addJoke cX1_addJoke 4 (some .int) 2 := ⟨tb_t 289 (by decide +kernel) (by decide +kernel), tb_t 2 (by decide +kernel) (by decide +kernel), by decide, by decide, by decide +kernel⟩
theorem cvX1_addJoke : CalV yX1_addJoke cX1_addJoke 4 (some .int) 2 := ⟨cbX1_addJoke, tb_t 287 (by decide +kernel) (by decide +kernel), tb_t 288 (by decide +kernel) (by decide +kernel)⟩
theorem cbX5_jokeOf : CalB yX5_jokeOf cX5_jokeOf 3 (some .int) 2 := ⟨tb_t 293 (by decide +kernel) (by decide +kernel), tb_t 1 (by decide +kernel) (by decide +kernel), by decide, by decide, by decide +kernel⟩
theorem cvX5_jokeOf : CalV yX5_jokeOf cX5_jokeOf 3 (some .int) 2 := ⟨cbX5_jokeOf, tb_t 291 (by decide +kernel) (by decide +kernel), tb_t 292 (by decide +kernel) (by decide +kernel)⟩
theorem cbX5_hasJoke : CalB yX5_hasJoke cX5_hasJoke 2 (some .boolean) 1 := ⟨tb_t 297 (by decide +kernel) (by decide +kernel), tb_t 1 (by decide +kernel) (by decide +kernel), by decide, by decide, by decide +kernel⟩
theorem cvX5_hasJoke : CalV yX5_hasJoke cX5_hasJoke 2 (some .boolean) 1 := ⟨cbX5_hasJoke, tb_t 296 (by decide +kernel) (by decide +kernel), tb_s 4 (by decide +kernel) (by decide +kernel)⟩
theorem cbX5_law : CalB yX5_law cX5_law 5 (some .int) 2 := ⟨tb_t 301 (by decide +kernel) (by decide +kernel), tb_t 1 (by decide +kernel) (by decide +kernel), by decide, by decide, by decide +kernel⟩
theorem cvX5_law : CalV yX5_law cX5_law 5 (some .int) 2 := ⟨cbX5_law, tb_t 299 (by decide +kernel) (by decide +kernel), tb_t 300 (by decide +kernel) (by decide +kernel)⟩
theorem cbX1_setReach : CalB yX1_setReach cX1_setReach 2 none 1 := ⟨tb_t 305 (by decide +kernel) (by decide +kernel), tb_t 2 (by decide +kernel) (by decide +kernel), by decide, by decide, by decide +kernel⟩
theorem cvX1_setReach : CalV yX1_setReach cX1_setReach 2 none 1 := ⟨cbX1_setReach, tb_t 303 (by decide +kernel) (by decide +kernel), tb_t 304 (by decide +kernel) (by decide +kernel)⟩
theorem cbX5_strength : CalB yX5_strength cX5_strength 5 (some .int) 3 := ⟨tb_t 309 (by decide +kernel) (by decide +kernel), tb_t 1 (by decide +kernel) (by decide +kernel), by decide, by decide, by decide +kernel⟩
theorem cvX5_strength : CalV yX5_strength cX5_strength 5 (some .int) 3 := ⟨cbX5_strength, tb_t 307 (by decide +kernel) (by decide +kernel), tb_t 308 (by decide +kernel) (by decide +kernel)⟩
theorem cbX1_strengthFor : CalB yX1_strengthFor cX1_strengthFor 4 (some .int) 3 := ⟨tb_t 313 (by decide +kernel) (by decide +kernel), tb_t 2 (by decide +kernel) (by decide +kernel), by decide, by decide, by decide +kernel⟩
theorem cvX1_strengthFor : CalV yX1_strengthFor cX1_strengthFor 4 (some .int) 3 := ⟨cbX1_strengthFor, tb_t 311 (by decide +kernel) (by decide +kernel), tb_t 312 (by decide +kernel) (by decide +kernel)⟩
theorem cbX0_seconds : CalB yX0_seconds cX0_seconds 3 (some .int) 2 := ⟨tb_t 317 (by decide +kernel) (by decide +kernel), tb_t 8 (by decide +kernel) (by decide +kernel), by decide, by decide, by decide +kernel⟩
theorem csX0_seconds : CalS yX0_seconds cX0_seconds 3 (some .int) 2 := ⟨cbX0_seconds, tb_t 316 (by decide +kernel) (by decide +kernel)⟩
theorem cbJ9_max_7cf53 : CalB yJ9_max_7cf53 cJ9_max_7cf53 2 (some .int) 2 := ⟨tb_t 320 (by decide +kernel) (by decide +kernel), tb_t 7 (by decide +kernel) (by decide +kernel), by decide, by decide, by decide +kernel⟩
theorem csJ9_max_7cf53 : CalS yJ9_max_7cf53 cJ9_max_7cf53 2 (some .int) 2 := ⟨cbJ9_max_7cf53, tb_t 319 (by decide +kernel) (by decide +kernel)⟩
theorem cbX1_dueFrom : CalB yX1_dueFrom cX1_dueFrom 3 (some .int) 2 := ⟨tb_t 324 (by decide +kernel) (by decide +kernel), tb_t 2 (by decide +kernel) (by decide +kernel), by decide, by decide, by decide +kernel⟩
theorem cvX1_dueFrom : CalV yX1_dueFrom cX1_dueFrom 3 (some .int) 2 := ⟨cbX1_dueFrom, tb_t 322 (by decide +kernel) (by decide +kernel), tb_t 323 (by decide +kernel) (by decide +kernel)⟩
theorem cbX5_tell : CalB yX5_tell cX5_tell 2 (some .int) 1 := ⟨tb_t 329 (by decide +kernel) (by decide +kernel), tb_t 1 (by decide +kernel) (by decide +kernel), by decide, by decide, by decide +kernel⟩
theorem cvX5_tell : CalV yX5_tell cX5_tell 2 (some .int) 1 := ⟨cbX5_tell, tb_t 327 (by decide +kernel) (by decide +kernel), tb_t 328 (by decide +kernel) (by decide +kernel)⟩
theorem cbX4_perform : CalB yX4_perform cX4_perform 6 (some .int) 2 := ⟨tb_t 335 (by decide +kernel) (by decide +kernel), tb_t 3 (by decide +kernel) (by decide +kernel), by decide, by decide, by decide +kernel⟩
theorem cvX4_perform : CalV yX4_perform cX4_perform 6 (some .int) 2 := ⟨cbX4_perform, tb_t 333 (by decide +kernel) (by decide +kernel), tb_t 334 (by decide +kernel) (by decide +kernel)⟩
theorem cbX4_laughersOf : CalB yX4_laughersOf cX4_laughersOf 4 (some .int) 2 := ⟨tb_t 339 (by decide +kernel) (by decide +kernel), tb_t 3 (by decide +kernel) (by decide +kernel), by decide, by decide, by decide +kernel⟩
theorem cvX4_laughersOf : CalV yX4_laughersOf cX4_laughersOf 4 (some .int) 2 := ⟨cbX4_laughersOf, tb_t 337 (by decide +kernel) (by decide +kernel), tb_t 338 (by decide +kernel) (by decide +kernel)⟩
theorem cbX4_startersOf : CalB yX4_startersOf cX4_startersOf 6 (some .int) 3 := ⟨tb_t 343 (by decide +kernel) (by decide +kernel), tb_t 3 (by decide +kernel) (by decide +kernel), by decide, by decide, by decide +kernel⟩
theorem cvX4_startersOf : CalV yX4_startersOf cX4_startersOf 6 (some .int) 3 := ⟨cbX4_startersOf, tb_t 341 (by decide +kernel) (by decide +kernel), tb_t 342 (by decide +kernel) (by decide +kernel)⟩
theorem cbX1_everybody : CalB yX1_everybody cX1_everybody 1 (some .int) 0 := ⟨tb_t 349 (by decide +kernel) (by decide +kernel), tb_t 2 (by decide +kernel) (by decide +kernel), by decide, by decide, by decide +kernel⟩
theorem cvX1_everybody : CalV yX1_everybody cX1_everybody 1 (some .int) 0 := ⟨cbX1_everybody, tb_t 347 (by decide +kernel) (by decide +kernel), tb_t 348 (by decide +kernel) (by decide +kernel)⟩
theorem cbX4_spread : CalB yX4_spread cX4_spread 7 (some .int) 3 := ⟨tb_t 353 (by decide +kernel) (by decide +kernel), tb_t 3 (by decide +kernel) (by decide +kernel), by decide, by decide, by decide +kernel⟩
theorem cvX4_spread : CalV yX4_spread cX4_spread 7 (some .int) 3 := ⟨cbX4_spread, tb_t 351 (by decide +kernel) (by decide +kernel), tb_t 352 (by decide +kernel) (by decide +kernel)⟩
theorem cbX4_noteRound : CalB yX4_noteRound cX4_noteRound 4 none 2 := ⟨tb_t 357 (by decide +kernel) (by decide +kernel), tb_t 3 (by decide +kernel) (by decide +kernel), by decide, by decide, by decide +kernel⟩
theorem cvX4_noteRound : CalV yX4_noteRound cX4_noteRound 4 none 2 := ⟨cbX4_noteRound, tb_t 356 (by decide +kernel) (by decide +kernel), tb_s 5 (by decide +kernel) (by decide +kernel)⟩
theorem cbX5_isIn : CalB yX5_isIn cX5_isIn 2 (some .boolean) 2 := ⟨tb_t 360 (by decide +kernel) (by decide +kernel), tb_t 1 (by decide +kernel) (by decide +kernel), by decide, by decide, by decide +kernel⟩
theorem csX5_isIn : CalS yX5_isIn cX5_isIn 2 (some .boolean) 2 := ⟨cbX5_isIn, tb_t 359 (by decide +kernel) (by decide +kernel)⟩
theorem cbX4_catchersFrom : CalB yX4_catchersFrom cX4_catchersFrom 7 (some .int) 3 := ⟨tb_t 364 (by decide +kernel) (by decide +kernel), tb_t 3 (by decide +kernel) (by decide +kernel), by decide, by decide, by decide +kernel⟩
theorem cvX4_catchersFrom : CalV yX4_catchersFrom cX4_catchersFrom 7 (some .int) 3 := ⟨cbX4_catchersFrom, tb_t 363 (by decide +kernel) (by decide +kernel), tb_s 6 (by decide +kernel) (by decide +kernel)⟩
theorem cbX4_collect : CalB yX4_collect cX4_collect 5 (some .int) 3 := ⟨tb_t 371 (by decide +kernel) (by decide +kernel), tb_t 3 (by decide +kernel) (by decide +kernel), by decide, by decide, by decide +kernel⟩
theorem cvX4_collect : CalV yX4_collect cX4_collect 5 (some .int) 3 := ⟨cbX4_collect, tb_t 370 (by decide +kernel) (by decide +kernel), tb_s 7 (by decide +kernel) (by decide +kernel)⟩
theorem cbX5_evening : CalB yX5_evening cX5_evening 3 (some .int) 2 := ⟨tb_t 379 (by decide +kernel) (by decide +kernel), tb_t 1 (by decide +kernel) (by decide +kernel), by decide, by decide, by decide +kernel⟩
theorem cvX5_evening : CalV yX5_evening cX5_evening 3 (some .int) 2 := ⟨cbX5_evening, tb_t 377 (by decide +kernel) (by decide +kernel), tb_t 378 (by decide +kernel) (by decide +kernel)⟩
theorem cbX4_performOften : CalB yX4_performOften cX4_performOften 5 (some .int) 3 := ⟨tb_t 383 (by decide +kernel) (by decide +kernel), tb_t 3 (by decide +kernel) (by decide +kernel), by decide, by decide, by decide +kernel⟩
theorem cvX4_performOften : CalV yX4_performOften cX4_performOften 5 (some .int) 3 := ⟨cbX4_performOften, tb_t 381 (by decide +kernel) (by decide +kernel), tb_t 382 (by decide +kernel) (by decide +kernel)⟩
theorem cbX5_now : CalB yX5_now cX5_now 2 (some .int) 1 := ⟨tb_t 388 (by decide +kernel) (by decide +kernel), tb_t 1 (by decide +kernel) (by decide +kernel), by decide, by decide, by decide +kernel⟩
theorem cvX5_now : CalV yX5_now cX5_now 2 (some .int) 1 := ⟨cbX5_now, tb_t 386 (by decide +kernel) (by decide +kernel), tb_t 387 (by decide +kernel) (by decide +kernel)⟩
theorem cbX1_together : CalB yX1_together cX1_together 4 (some .int) 1 := ⟨tb_t 392 (by decide +kernel) (by decide +kernel), tb_t 2 (by decide +kernel) (by decide +kernel), by decide, by decide, by decide +kernel⟩
theorem cvX1_together : CalV yX1_together cX1_together 4 (some .int) 1 := ⟨cbX1_together, tb_t 390 (by decide +kernel) (by decide +kernel), tb_t 391 (by decide +kernel) (by decide +kernel)⟩
theorem cbX5_relief : CalB yX5_relief cX5_relief 5 (some .int) 1 := ⟨tb_t 396 (by decide +kernel) (by decide +kernel), tb_t 1 (by decide +kernel) (by decide +kernel), by decide, by decide, by decide +kernel⟩
theorem cvX5_relief : CalV yX5_relief cX5_relief 5 (some .int) 1 := ⟨cbX5_relief, tb_t 394 (by decide +kernel) (by decide +kernel), tb_t 395 (by decide +kernel) (by decide +kernel)⟩
theorem cbX1_poorest : CalB yX1_poorest cX1_poorest 3 (some .int) 0 := ⟨tb_t 402 (by decide +kernel) (by decide +kernel), tb_t 2 (by decide +kernel) (by decide +kernel), by decide, by decide, by decide +kernel⟩
theorem cvX1_poorest : CalV yX1_poorest cX1_poorest 3 (some .int) 0 := ⟨cbX1_poorest, tb_t 400 (by decide +kernel) (by decide +kernel), tb_t 401 (by decide +kernel) (by decide +kernel)⟩
theorem cbX5_laugh : CalB yX5_laugh cX5_laugh 3 (some .int) 2 := ⟨tb_t 406 (by decide +kernel) (by decide +kernel), tb_t 1 (by decide +kernel) (by decide +kernel), by decide, by decide, by decide +kernel⟩
theorem cvX5_laugh : CalV yX5_laugh cX5_laugh 3 (some .int) 2 := ⟨cbX5_laugh, tb_t 404 (by decide +kernel) (by decide +kernel), tb_t 405 (by decide +kernel) (by decide +kernel)⟩
theorem cbX5_rounds : CalB yX5_rounds cX5_rounds 2 (some .int) 1 := ⟨tb_t 412 (by decide +kernel) (by decide +kernel), tb_t 1 (by decide +kernel) (by decide +kernel), by decide, by decide, by decide +kernel⟩
theorem cvX5_rounds : CalV yX5_rounds cX5_rounds 2 (some .int) 1 := ⟨cbX5_rounds, tb_t 410 (by decide +kernel) (by decide +kernel), tb_t 411 (by decide +kernel) (by decide +kernel)⟩
theorem cbX5_raised : CalB yX5_raised cX5_raised 2 (some .int) 1 := ⟨tb_t 416 (by decide +kernel) (by decide +kernel), tb_t 1 (by decide +kernel) (by decide +kernel), by decide, by decide, by decide +kernel⟩
theorem cvX5_raised : CalV yX5_raised cX5_raised 2 (some .int) 1 := ⟨cbX5_raised, tb_t 414 (by decide +kernel) (by decide +kernel), tb_t 415 (by decide +kernel) (by decide +kernel)⟩
theorem cbX1_takeOver : CalB yX1_takeOver cX1_takeOver 2 none 1 := ⟨tb_t 420 (by decide +kernel) (by decide +kernel), tb_t 2 (by decide +kernel) (by decide +kernel), by decide, by decide, by decide +kernel⟩
theorem cvX1_takeOver : CalV yX1_takeOver cX1_takeOver 2 none 1 := ⟨cbX1_takeOver, tb_t 418 (by decide +kernel) (by decide +kernel), tb_t 419 (by decide +kernel) (by decide +kernel)⟩
theorem cbX5_ahead : CalB yX5_ahead cX5_ahead 3 (some .int) 2 := ⟨tb_t 427 (by decide +kernel) (by decide +kernel), tb_t 1 (by decide +kernel) (by decide +kernel), by decide, by decide, by decide +kernel⟩
theorem cvX5_ahead : CalV yX5_ahead cX5_ahead 3 (some .int) 2 := ⟨cbX5_ahead, tb_t 425 (by decide +kernel) (by decide +kernel), tb_t 426 (by decide +kernel) (by decide +kernel)⟩
theorem cbX5_stale : CalB yX5_stale cX5_stale 3 (some .int) 1 := ⟨tb_t 431 (by decide +kernel) (by decide +kernel), tb_t 1 (by decide +kernel) (by decide +kernel), by decide, by decide, by decide +kernel⟩
theorem cvX5_stale : CalV yX5_stale cX5_stale 3 (some .int) 1 := ⟨cbX5_stale, tb_t 429 (by decide +kernel) (by decide +kernel), tb_t 430 (by decide +kernel) (by decide +kernel)⟩
theorem cbX5_broke : CalB yX5_broke cX5_broke 4 (some .int) 2 := ⟨tb_t 435 (by decide +kernel) (by decide +kernel), tb_t 1 (by decide +kernel) (by decide +kernel), by decide, by decide, by decide +kernel⟩
theorem cvX5_broke : CalV yX5_broke cX5_broke 4 (some .int) 2 := ⟨cbX5_broke, tb_t 433 (by decide +kernel) (by decide +kernel), tb_t 434 (by decide +kernel) (by decide +kernel)⟩
theorem cbX5_caught : CalB yX5_caught cX5_caught 2 (some .int) 1 := ⟨tb_t 439 (by decide +kernel) (by decide +kernel), tb_t 1 (by decide +kernel) (by decide +kernel), by decide, by decide, by decide +kernel⟩
theorem cvX5_caught : CalV yX5_caught cX5_caught 2 (some .int) 1 := ⟨cbX5_caught, tb_t 437 (by decide +kernel) (by decide +kernel), tb_t 438 (by decide +kernel) (by decide +kernel)⟩
theorem cbX5_starter : CalB yX5_starter cX5_starter 5 (some .int) 0 := ⟨tb_t 445 (by decide +kernel) (by decide +kernel), tb_t 1 (by decide +kernel) (by decide +kernel), by decide, by decide, by decide +kernel⟩
theorem cvX5_starter : CalV yX5_starter cX5_starter 5 (some .int) 0 := ⟨cbX5_starter, tb_t 443 (by decide +kernel) (by decide +kernel), tb_t 444 (by decide +kernel) (by decide +kernel)⟩
theorem cbX5_fewest : CalB yX5_fewest cX5_fewest 4 (some .int) 0 := ⟨tb_t 449 (by decide +kernel) (by decide +kernel), tb_t 1 (by decide +kernel) (by decide +kernel), by decide, by decide, by decide +kernel⟩
theorem cvX5_fewest : CalV yX5_fewest cX5_fewest 4 (some .int) 0 := ⟨cbX5_fewest, tb_t 447 (by decide +kernel) (by decide +kernel), tb_t 448 (by decide +kernel) (by decide +kernel)⟩
theorem cbX5_isSmaller : CalB yX5_isSmaller cX5_isSmaller 2 (some .boolean) 2 := ⟨tb_t 452 (by decide +kernel) (by decide +kernel), tb_t 1 (by decide +kernel) (by decide +kernel), by decide, by decide, by decide +kernel⟩
theorem csX5_isSmaller : CalS yX5_isSmaller cX5_isSmaller 2 (some .boolean) 2 := ⟨cbX5_isSmaller, tb_t 451 (by decide +kernel) (by decide +kernel)⟩
theorem cbX5_away : CalB yX5_away cX5_away 7 (some .int) 2 := ⟨tb_t 456 (by decide +kernel) (by decide +kernel), tb_t 1 (by decide +kernel) (by decide +kernel), by decide, by decide, by decide +kernel⟩
theorem cvX5_away : CalV yX5_away cX5_away 7 (some .int) 2 := ⟨cbX5_away, tb_t 454 (by decide +kernel) (by decide +kernel), tb_t 455 (by decide +kernel) (by decide +kernel)⟩
theorem cbX5_seatFor : CalB yX5_seatFor cX5_seatFor 7 (some .int) 2 := ⟨tb_t 460 (by decide +kernel) (by decide +kernel), tb_t 1 (by decide +kernel) (by decide +kernel), by decide, by decide, by decide +kernel⟩
theorem cvX5_seatFor : CalV yX5_seatFor cX5_seatFor 7 (some .int) 2 := ⟨cbX5_seatFor, tb_t 458 (by decide +kernel) (by decide +kernel), tb_t 459 (by decide +kernel) (by decide +kernel)⟩
theorem cbX5_kindFor : CalB yX5_kindFor cX5_kindFor 7 (some .int) 2 := ⟨tb_t 464 (by decide +kernel) (by decide +kernel), tb_t 1 (by decide +kernel) (by decide +kernel), by decide, by decide, by decide +kernel⟩
theorem cvX5_kindFor : CalV yX5_kindFor cX5_kindFor 7 (some .int) 2 := ⟨cbX5_kindFor, tb_t 462 (by decide +kernel) (by decide +kernel), tb_t 463 (by decide +kernel) (by decide +kernel)⟩
theorem cbX5_reachFor : CalB yX5_reachFor cX5_reachFor 3 (some .int) 1 := ⟨tb_t 468 (by decide +kernel) (by decide +kernel), tb_t 1 (by decide +kernel) (by decide +kernel), by decide, by decide, by decide +kernel⟩
theorem cvX5_reachFor : CalV yX5_reachFor cX5_reachFor 3 (some .int) 1 := ⟨cbX5_reachFor, tb_t 466 (by decide +kernel) (by decide +kernel), tb_t 467 (by decide +kernel) (by decide +kernel)⟩
theorem cbX5_rateFor : CalB yX5_rateFor cX5_rateFor 7 (some .int) 2 := ⟨tb_t 472 (by decide +kernel) (by decide +kernel), tb_t 1 (by decide +kernel) (by decide +kernel), by decide, by decide, by decide +kernel⟩
theorem cvX5_rateFor : CalV yX5_rateFor cX5_rateFor 7 (some .int) 2 := ⟨cbX5_rateFor, tb_t 470 (by decide +kernel) (by decide +kernel), tb_t 471 (by decide +kernel) (by decide +kernel)⟩
theorem cbX5_best : CalB yX5_best cX5_best 6 (some .int) 1 := ⟨tb_t 476 (by decide +kernel) (by decide +kernel), tb_t 1 (by decide +kernel) (by decide +kernel), by decide, by decide, by decide +kernel⟩
theorem cvX5_best : CalV yX5_best cX5_best 6 (some .int) 1 := ⟨cbX5_best, tb_t 474 (by decide +kernel) (by decide +kernel), tb_t 475 (by decide +kernel) (by decide +kernel)⟩
theorem cbX5_laughingAt : CalB yX5_laughingAt cX5_laughingAt 4 (some .int) 2 := ⟨tb_t 480 (by decide +kernel) (by decide +kernel), tb_t 1 (by decide +kernel) (by decide +kernel), by decide, by decide, by decide +kernel⟩
theorem cvX5_laughingAt : CalV yX5_laughingAt cX5_laughingAt 4 (some .int) 2 := ⟨cbX5_laughingAt, tb_t 479 (by decide +kernel) (by decide +kernel), tb_s 8 (by decide +kernel) (by decide +kernel)⟩
theorem cbX5_quiet : CalB yX5_quiet cX5_quiet 6 (some .int) 1 := ⟨tb_t 484 (by decide +kernel) (by decide +kernel), tb_t 1 (by decide +kernel) (by decide +kernel), by decide, by decide, by decide +kernel⟩
theorem cvX5_quiet : CalV yX5_quiet cX5_quiet 6 (some .int) 1 := ⟨cbX5_quiet, tb_t 482 (by decide +kernel) (by decide +kernel), tb_t 483 (by decide +kernel) (by decide +kernel)⟩
theorem cbX5_safe : CalB yX5_safe cX5_safe 3 (some .int) 1 := ⟨tb_t 488 (by decide +kernel) (by decide +kernel), tb_t 1 (by decide +kernel) (by decide +kernel), by decide, by decide, by decide +kernel⟩
theorem cvX5_safe : CalV yX5_safe cX5_safe 3 (some .int) 1 := ⟨cbX5_safe, tb_t 486 (by decide +kernel) (by decide +kernel), tb_t 487 (by decide +kernel) (by decide +kernel)⟩
theorem cbX5_tastes : CalB yX5_tastes cX5_tastes 7 (some .int) 3 := ⟨tb_t 492 (by decide +kernel) (by decide +kernel), tb_t 1 (by decide +kernel) (by decide +kernel), by decide, by decide, by decide +kernel⟩
theorem cvX5_tastes : CalV yX5_tastes cX5_tastes 7 (some .int) 3 := ⟨cbX5_tastes, tb_t 490 (by decide +kernel) (by decide +kernel), tb_t 491 (by decide +kernel) (by decide +kernel)⟩
theorem cbX5_paymentsFinding : CalB yX5_paymentsFinding cX5_paymentsFinding 5 (some .int) 3 := ⟨tb_t 496 (by decide +kernel) (by decide +kernel), tb_t 1 (by decide +kernel) (by decide +kernel), by decide, by decide, by decide +kernel⟩
theorem cvX5_paymentsFinding : CalV yX5_paymentsFinding cX5_paymentsFinding 5 (some .int) 3 := ⟨cbX5_paymentsFinding, tb_t 495 (by decide +kernel) (by decide +kernel), tb_s 9 (by decide +kernel) (by decide +kernel)⟩
theorem cbX5_sheetFinding : CalB yX5_sheetFinding cX5_sheetFinding 2 (some .int) 1 := ⟨tb_t 500 (by decide +kernel) (by decide +kernel), tb_t 1 (by decide +kernel) (by decide +kernel), by decide, by decide, by decide +kernel⟩
theorem cvX5_sheetFinding : CalV yX5_sheetFinding cX5_sheetFinding 2 (some .int) 1 := ⟨cbX5_sheetFinding, tb_t 499 (by decide +kernel) (by decide +kernel), tb_s 10 (by decide +kernel) (by decide +kernel)⟩
theorem cbX2_isMissing : CalB yX2_isMissing cX2_isMissing 1 (some .boolean) 0 := ⟨tb_t 504 (by decide +kernel) (by decide +kernel), tb_t 5 (by decide +kernel) (by decide +kernel), by decide, by decide, by decide +kernel⟩
theorem cvX2_isMissing : CalV yX2_isMissing cX2_isMissing 1 (some .boolean) 0 := ⟨cbX2_isMissing, tb_t 502 (by decide +kernel) (by decide +kernel), tb_t 503 (by decide +kernel) (by decide +kernel)⟩
theorem cbX5_fits : CalB yX5_fits cX5_fits 6 (some .boolean) 4 := ⟨tb_t 509 (by decide +kernel) (by decide +kernel), tb_t 1 (by decide +kernel) (by decide +kernel), by decide, by decide, by decide +kernel⟩
theorem cvX5_fits : CalV yX5_fits cX5_fits 6 (some .boolean) 4 := ⟨cbX5_fits, tb_t 508 (by decide +kernel) (by decide +kernel), tb_s 11 (by decide +kernel) (by decide +kernel)⟩
theorem cbX2_tells : CalB yX2_tells cX2_tells 3 (some .boolean) 2 := ⟨tb_t 513 (by decide +kernel) (by decide +kernel), tb_t 5 (by decide +kernel) (by decide +kernel), by decide, by decide, by decide +kernel⟩
theorem cvX2_tells : CalV yX2_tells cX2_tells 3 (some .boolean) 2 := ⟨cbX2_tells, tb_t 511 (by decide +kernel) (by decide +kernel), tb_t 512 (by decide +kernel) (by decide +kernel)⟩
theorem cbX5_taste : CalB yX5_taste cX5_taste 6 (some .int) 3 := ⟨tb_t 517 (by decide +kernel) (by decide +kernel), tb_t 1 (by decide +kernel) (by decide +kernel), by decide, by decide, by decide +kernel⟩
theorem cvX5_taste : CalV yX5_taste cX5_taste 6 (some .int) 3 := ⟨cbX5_taste, tb_t 515 (by decide +kernel) (by decide +kernel), tb_t 516 (by decide +kernel) (by decide +kernel)⟩
theorem cbX5_which : CalB yX5_which cX5_which 5 (some .int) 1 := ⟨tb_t 521 (by decide +kernel) (by decide +kernel), tb_t 1 (by decide +kernel) (by decide +kernel), by decide, by decide, by decide +kernel⟩
theorem cvX5_which : CalV yX5_which cX5_which 5 (some .int) 1 := ⟨cbX5_which, tb_t 519 (by decide +kernel) (by decide +kernel), tb_t 520 (by decide +kernel) (by decide +kernel)⟩
theorem cbX2_tellsFirst : CalB yX2_tellsFirst cX2_tellsFirst 5 (some .boolean) 2 := ⟨tb_t 525 (by decide +kernel) (by decide +kernel), tb_t 5 (by decide +kernel) (by decide +kernel), by decide, by decide, by decide +kernel⟩
theorem cvX2_tellsFirst : CalV yX2_tellsFirst cX2_tellsFirst 5 (some .boolean) 2 := ⟨cbX2_tellsFirst, tb_t 523 (by decide +kernel) (by decide +kernel), tb_t 524 (by decide +kernel) (by decide +kernel)⟩
theorem cbX5_shows : CalB yX5_shows cX5_shows 3 (some .int) 1 := ⟨tb_t 531 (by decide +kernel) (by decide +kernel), tb_t 1 (by decide +kernel) (by decide +kernel), by decide, by decide, by decide +kernel⟩
theorem cvX5_shows : CalV yX5_shows cX5_shows 3 (some .int) 1 := ⟨cbX5_shows, tb_t 529 (by decide +kernel) (by decide +kernel), tb_t 530 (by decide +kernel) (by decide +kernel)⟩
theorem cbX1_drawBelow : CalB yX1_drawBelow cX1_drawBelow 2 (some .int) 1 := ⟨tb_t 535 (by decide +kernel) (by decide +kernel), tb_t 2 (by decide +kernel) (by decide +kernel), by decide, by decide, by decide +kernel⟩
theorem cvX1_drawBelow : CalV yX1_drawBelow cX1_drawBelow 2 (some .int) 1 := ⟨cbX1_drawBelow, tb_t 533 (by decide +kernel) (by decide +kernel), tb_t 534 (by decide +kernel) (by decide +kernel)⟩
theorem cbX5_odds : CalB yX5_odds cX5_odds 5 (some .long) 2 := ⟨tb_t 540 (by decide +kernel) (by decide +kernel), tb_t 1 (by decide +kernel) (by decide +kernel), by decide, by decide, by decide +kernel⟩
theorem cvX5_odds : CalV yX5_odds cX5_odds 5 (some .long) 2 := ⟨cbX5_odds, tb_t 538 (by decide +kernel) (by decide +kernel), tb_t 539 (by decide +kernel) (by decide +kernel)⟩
theorem cbX5_inLowestTerms : CalB yX5_inLowestTerms cX5_inLowestTerms 3 (some .int) 2 := ⟨tb_t 543 (by decide +kernel) (by decide +kernel), tb_t 1 (by decide +kernel) (by decide +kernel), by decide, by decide, by decide +kernel⟩
theorem csX5_inLowestTerms : CalS yX5_inLowestTerms cX5_inLowestTerms 3 (some .int) 2 := ⟨cbX5_inLowestTerms, tb_t 542 (by decide +kernel) (by decide +kernel)⟩
theorem cbX5_power : CalB yX5_power cX5_power 5 (some .long) 2 := ⟨tb_t 547 (by decide +kernel) (by decide +kernel), tb_t 1 (by decide +kernel) (by decide +kernel), by decide, by decide, by decide +kernel⟩
theorem csX5_power : CalS yX5_power cX5_power 5 (some .long) 2 := ⟨cbX5_power, tb_t 546 (by decide +kernel) (by decide +kernel)⟩
theorem cbX5_seed : CalB yX5_seed cX5_seed 3 (some .int) 1 := ⟨tb_t 551 (by decide +kernel) (by decide +kernel), tb_t 1 (by decide +kernel) (by decide +kernel), by decide, by decide, by decide +kernel⟩
theorem cvX5_seed : CalV yX5_seed cX5_seed 3 (some .int) 1 := ⟨cbX5_seed, tb_t 549 (by decide +kernel) (by decide +kernel), tb_t 550 (by decide +kernel) (by decide +kernel)⟩
theorem cbX5_feed : CalB yX5_feed cX5_feed 4 (some .int) 2 := ⟨tb_t 555 (by decide +kernel) (by decide +kernel), tb_t 1 (by decide +kernel) (by decide +kernel), by decide, by decide, by decide +kernel⟩
theorem cvX5_feed : CalV yX5_feed cX5_feed 4 (some .int) 2 := ⟨cbX5_feed, tb_t 553 (by decide +kernel) (by decide +kernel), tb_t 554 (by decide +kernel) (by decide +kernel)⟩
theorem cbX3_put : CalB yX3_put cX3_put 2 none 1 := ⟨tb_t 559 (by decide +kernel) (by decide +kernel), tb_t 4 (by decide +kernel) (by decide +kernel), by decide, by decide, by decide +kernel⟩
theorem cvX3_put : CalV yX3_put cX3_put 2 none 1 := ⟨cbX3_put, tb_t 557 (by decide +kernel) (by decide +kernel), tb_t 558 (by decide +kernel) (by decide +kernel)⟩
theorem cbX5_wipe : CalB yX5_wipe cX5_wipe 2 (some .int) 0 := ⟨tb_t 563 (by decide +kernel) (by decide +kernel), tb_t 1 (by decide +kernel) (by decide +kernel), by decide, by decide, by decide +kernel⟩
theorem cvX5_wipe : CalV yX5_wipe cX5_wipe 2 (some .int) 0 := ⟨cbX5_wipe, tb_t 561 (by decide +kernel) (by decide +kernel), tb_t 562 (by decide +kernel) (by decide +kernel)⟩
theorem cbX5_text : CalB yX5_text cX5_text 2 (some .int) 0 := ⟨tb_t 567 (by decide +kernel) (by decide +kernel), tb_t 1 (by decide +kernel) (by decide +kernel), by decide, by decide, by decide +kernel⟩
theorem cvX5_text : CalV yX5_text cX5_text 2 (some .int) 0 := ⟨cbX5_text, tb_t 565 (by decide +kernel) (by decide +kernel), tb_t 566 (by decide +kernel) (by decide +kernel)⟩
theorem cbX3_readInto : CalB yX3_readInto cX3_readInto 3 (some .int) 1 := ⟨tb_t 571 (by decide +kernel) (by decide +kernel), tb_t 4 (by decide +kernel) (by decide +kernel), by decide, by decide, by decide +kernel⟩
theorem cvX3_readInto : CalV yX3_readInto cX3_readInto 3 (some .int) 1 := ⟨cbX3_readInto, tb_t 569 (by decide +kernel) (by decide +kernel), tb_t 570 (by decide +kernel) (by decide +kernel)⟩
theorem cbX3_step : CalB yX3_step cX3_step 2 none 0 := ⟨tb_t 575 (by decide +kernel) (by decide +kernel), tb_t 4 (by decide +kernel) (by decide +kernel), by decide, by decide, by decide +kernel⟩
theorem cvX3_step : CalV yX3_step cX3_step 2 none 0 := ⟨cbX3_step, tb_t 574 (by decide +kernel) (by decide +kernel), tb_s 12 (by decide +kernel) (by decide +kernel)⟩
theorem cbX3_tokenOf : CalB yX3_tokenOf cX3_tokenOf 1 (some .int) 1 := ⟨tb_t 578 (by decide +kernel) (by decide +kernel), tb_t 4 (by decide +kernel) (by decide +kernel), by decide, by decide, by decide +kernel⟩
theorem csX3_tokenOf : CalS yX3_tokenOf cX3_tokenOf 1 (some .int) 1 := ⟨cbX3_tokenOf, tb_t 577 (by decide +kernel) (by decide +kernel)⟩
theorem cbX3_readItem : CalB yX3_readItem cX3_readItem 3 (some .boolean) 1 := ⟨tb_t 583 (by decide +kernel) (by decide +kernel), tb_t 4 (by decide +kernel) (by decide +kernel), by decide, by decide, by decide +kernel⟩
theorem cvX3_readItem : CalV yX3_readItem cX3_readItem 3 (some .boolean) 1 := ⟨cbX3_readItem, tb_t 582 (by decide +kernel) (by decide +kernel), tb_s 13 (by decide +kernel) (by decide +kernel)⟩
theorem cbX3_wordOf : CalB yX3_wordOf cX3_wordOf 1 (some (.object "java/lang/String")) 1 := ⟨tb_t 586 (by decide +kernel) (by decide +kernel), tb_t 4 (by decide +kernel) (by decide +kernel), by decide, by decide, by decide +kernel⟩
theorem csX3_wordOf : CalS yX3_wordOf cX3_wordOf 1 (some (.object "java/lang/String")) 1 := ⟨cbX3_wordOf, tb_t 585 (by decide +kernel) (by decide +kernel)⟩
theorem cbX3_isWord : CalB yX3_isWord cX3_isWord 3 (some .boolean) 1 := ⟨tb_t 597 (by decide +kernel) (by decide +kernel), tb_t 4 (by decide +kernel) (by decide +kernel), by decide, by decide, by decide +kernel⟩
theorem cvX3_isWord : CalV yX3_isWord cX3_isWord 3 (some .boolean) 1 := ⟨cbX3_isWord, tb_t 596 (by decide +kernel) (by decide +kernel), tb_s 14 (by decide +kernel) (by decide +kernel)⟩
theorem cbJ0_length_8abf5 : CalB yJ0_length_8abf5 cJ0_length_8abf5 1 (some .int) 0 := ⟨tb_t 601 (by decide +kernel) (by decide +kernel), tb_t 11 (by decide +kernel) (by decide +kernel), by decide, by decide, by decide +kernel⟩
theorem cvJ0_length_8abf5 : CalV yJ0_length_8abf5 cJ0_length_8abf5 1 (some .int) 0 := ⟨cbJ0_length_8abf5, tb_t 599 (by decide +kernel) (by decide +kernel), tb_t 600 (by decide +kernel) (by decide +kernel)⟩
theorem cbJ0_coder_7d493 : CalB yJ0_coder_7d493 cJ0_coder_7d493 1 (some .byte) 0 := ⟨tb_t 605 (by decide +kernel) (by decide +kernel), tb_t 11 (by decide +kernel) (by decide +kernel), by decide, by decide, by decide +kernel⟩
theorem cvJ0_coder_7d493 : CalV yJ0_coder_7d493 cJ0_coder_7d493 1 (some .byte) 0 := ⟨cbJ0_coder_7d493, tb_t 603 (by decide +kernel) (by decide +kernel), tb_t 604 (by decide +kernel) (by decide +kernel)⟩
theorem cbJ0_charAt_5068e : CalB yJ0_charAt_5068e cJ0_charAt_5068e 2 (some .char) 1 := ⟨tb_t 611 (by decide +kernel) (by decide +kernel), tb_t 11 (by decide +kernel) (by decide +kernel), by decide, by decide, by decide +kernel⟩
theorem cvJ0_charAt_5068e : CalV yJ0_charAt_5068e cJ0_charAt_5068e 2 (some .char) 1 := ⟨cbJ0_charAt_5068e, tb_t 609 (by decide +kernel) (by decide +kernel), tb_t 610 (by decide +kernel) (by decide +kernel)⟩
theorem cbJ0_isLatin1_aae02 : CalB yJ0_isLatin1_aae02 cJ0_isLatin1_aae02 1 (some .boolean) 0 := ⟨tb_t 615 (by decide +kernel) (by decide +kernel), tb_t 11 (by decide +kernel) (by decide +kernel), by decide, by decide, by decide +kernel⟩
theorem cvJ0_isLatin1_aae02 : CalV yJ0_isLatin1_aae02 cJ0_isLatin1_aae02 1 (some .boolean) 0 := ⟨cbJ0_isLatin1_aae02, tb_t 613 (by decide +kernel) (by decide +kernel), tb_t 614 (by decide +kernel) (by decide +kernel)⟩
theorem cbJ1_charAt_3b067 : CalB yJ1_charAt_3b067 cJ1_charAt_3b067 2 (some .char) 2 := ⟨tb_t 618 (by decide +kernel) (by decide +kernel), tb_t 12 (by decide +kernel) (by decide +kernel), by decide, by decide, by decide +kernel⟩
theorem csJ1_charAt_3b067 : CalS yJ1_charAt_3b067 cJ1_charAt_3b067 2 (some .char) 2 := ⟨cbJ1_charAt_3b067, tb_t 617 (by decide +kernel) (by decide +kernel)⟩
theorem cbJ0_checkIndex_df160 : CalB yJ0_checkIndex_df160 cJ0_checkIndex_df160 2 none 2 := ⟨tb_t 621 (by decide +kernel) (by decide +kernel), tb_t 11 (by decide +kernel) (by decide +kernel), by decide, by decide, by decide +kernel⟩
theorem csJ0_checkIndex_df160 : CalS yJ0_checkIndex_df160 cJ0_checkIndex_df160 2 none 2 := ⟨cbJ0_checkIndex_df160, tb_t 620 (by decide +kernel) (by decide +kernel)⟩
theorem cbJ3_checkIndex_8e157 : CalB yJ3_checkIndex_8e157 cJ3_checkIndex_8e157 3 (some .int) 3 := ⟨tb_t 626 (by decide +kernel) (by decide +kernel), tb_t 13 (by decide +kernel) (by decide +kernel), by decide, by decide, by decide +kernel⟩
theorem csJ3_checkIndex_8e157 : CalS yJ3_checkIndex_8e157 cJ3_checkIndex_8e157 3 (some .int) 3 := ⟨cbJ3_checkIndex_8e157, tb_t 625 (by decide +kernel) (by decide +kernel)⟩
theorem cbJ2_charAt_3b067 : CalB yJ2_charAt_3b067 cJ2_charAt_3b067 2 (some .char) 2 := ⟨tb_t 629 (by decide +kernel) (by decide +kernel), tb_t 14 (by decide +kernel) (by decide +kernel), by decide, by decide, by decide +kernel⟩
theorem csJ2_charAt_3b067 : CalS yJ2_charAt_3b067 cJ2_charAt_3b067 2 (some .char) 2 := ⟨cbJ2_charAt_3b067, tb_t 628 (by decide +kernel) (by decide +kernel)⟩
theorem cbJ2_checkIndex_2214a : CalB yJ2_checkIndex_2214a cJ2_checkIndex_2214a 2 none 2 := ⟨tb_t 632 (by decide +kernel) (by decide +kernel), tb_t 14 (by decide +kernel) (by decide +kernel), by decide, by decide, by decide +kernel⟩
theorem csJ2_checkIndex_2214a : CalS yJ2_checkIndex_2214a cJ2_checkIndex_2214a 2 none 2 := ⟨cbJ2_checkIndex_2214a, tb_t 631 (by decide +kernel) (by decide +kernel)⟩
theorem cbJ2_length_9d52b : CalB yJ2_length_9d52b cJ2_length_9d52b 1 (some .int) 1 := ⟨tb_t 635 (by decide +kernel) (by decide +kernel), tb_t 14 (by decide +kernel) (by decide +kernel), by decide, by decide, by decide +kernel⟩
theorem csJ2_length_9d52b : CalS yJ2_length_9d52b cJ2_length_9d52b 1 (some .int) 1 := ⟨cbJ2_length_9d52b, tb_t 634 (by decide +kernel) (by decide +kernel)⟩
theorem cbJ2_getChar_3b067 : CalB yJ2_getChar_3b067 cJ2_getChar_3b067 2 (some .char) 2 := ⟨tb_t 639 (by decide +kernel) (by decide +kernel), tb_t 14 (by decide +kernel) (by decide +kernel), by decide, by decide, by decide +kernel⟩
theorem csJ2_getChar_3b067 : CalS yJ2_getChar_3b067 cJ2_getChar_3b067 2 (some .char) 2 := ⟨cbJ2_getChar_3b067, tb_t 638 (by decide +kernel) (by decide +kernel)⟩
theorem cbX3_readPerson : CalB yX3_readPerson cX3_readPerson 4 (some .boolean) 2 := ⟨tb_t 649 (by decide +kernel) (by decide +kernel), tb_t 4 (by decide +kernel) (by decide +kernel), by decide, by decide, by decide +kernel⟩
theorem cvX3_readPerson : CalV yX3_readPerson cX3_readPerson 4 (some .boolean) 2 := ⟨cbX3_readPerson, tb_t 648 (by decide +kernel) (by decide +kernel), tb_s 15 (by decide +kernel) (by decide +kernel)⟩
theorem cbX3_readPart : CalB yX3_readPart cX3_readPart 4 (some .boolean) 3 := ⟨tb_t 655 (by decide +kernel) (by decide +kernel), tb_t 4 (by decide +kernel) (by decide +kernel), by decide, by decide, by decide +kernel⟩
theorem cvX3_readPart : CalV yX3_readPart cX3_readPart 4 (some .boolean) 3 := ⟨cbX3_readPart, tb_t 654 (by decide +kernel) (by decide +kernel), tb_s 16 (by decide +kernel) (by decide +kernel)⟩
theorem cbX3_readNumber : CalB yX3_readNumber cX3_readNumber 3 (some .boolean) 2 := ⟨tb_t 659 (by decide +kernel) (by decide +kernel), tb_t 4 (by decide +kernel) (by decide +kernel), by decide, by decide, by decide +kernel⟩
theorem cvX3_readNumber : CalV yX3_readNumber cX3_readNumber 3 (some .boolean) 2 := ⟨cbX3_readNumber, tb_t 658 (by decide +kernel) (by decide +kernel), tb_s 17 (by decide +kernel) (by decide +kernel)⟩
theorem cbX3_readJoke : CalB yX3_readJoke cX3_readJoke 3 (some .boolean) 1 := ⟨tb_t 669 (by decide +kernel) (by decide +kernel), tb_t 4 (by decide +kernel) (by decide +kernel), by decide, by decide, by decide +kernel⟩
theorem cvX3_readJoke : CalV yX3_readJoke cX3_readJoke 3 (some .boolean) 1 := ⟨cbX3_readJoke, tb_t 668 (by decide +kernel) (by decide +kernel), tb_s 18 (by decide +kernel) (by decide +kernel)⟩
theorem cbX3_readRate : CalB yX3_readRate cX3_readRate 2 (some .boolean) 1 := ⟨tb_t 675 (by decide +kernel) (by decide +kernel), tb_t 4 (by decide +kernel) (by decide +kernel), by decide, by decide, by decide +kernel⟩
theorem cvX3_readRate : CalV yX3_readRate cX3_readRate 2 (some .boolean) 1 := ⟨cbX3_readRate, tb_t 674 (by decide +kernel) (by decide +kernel), tb_s 19 (by decide +kernel) (by decide +kernel)⟩
theorem cbX3_readReach : CalB yX3_readReach cX3_readReach 2 (some .boolean) 1 := ⟨tb_t 680 (by decide +kernel) (by decide +kernel), tb_t 4 (by decide +kernel) (by decide +kernel), by decide, by decide, by decide +kernel⟩
theorem cvX3_readReach : CalV yX3_readReach cX3_readReach 2 (some .boolean) 1 := ⟨cbX3_readReach, tb_t 679 (by decide +kernel) (by decide +kernel), tb_s 20 (by decide +kernel) (by decide +kernel)⟩
theorem cbX5_hold : CalB yX5_hold cX5_hold 4 (some .int) 2 := ⟨tb_t 685 (by decide +kernel) (by decide +kernel), tb_t 1 (by decide +kernel) (by decide +kernel), by decide, by decide, by decide +kernel⟩
theorem cvX5_hold : CalV yX5_hold cX5_hold 4 (some .int) 2 := ⟨cbX5_hold, tb_t 683 (by decide +kernel) (by decide +kernel), tb_t 684 (by decide +kernel) (by decide +kernel)⟩
theorem cbX5_as : CalB yX5_as cX5_as 4 (some .int) 2 := ⟨tb_t 689 (by decide +kernel) (by decide +kernel), tb_t 1 (by decide +kernel) (by decide +kernel), by decide, by decide, by decide +kernel⟩
theorem cvX5_as : CalV yX5_as cX5_as 4 (some .int) 2 := ⟨cbX5_as, tb_t 687 (by decide +kernel) (by decide +kernel), tb_t 688 (by decide +kernel) (by decide +kernel)⟩
theorem cbX0_isA : CalB yX0_isA cX0_isA 4 (some .boolean) 2 := ⟨tb_t 692 (by decide +kernel) (by decide +kernel), tb_t 8 (by decide +kernel) (by decide +kernel), by decide, by decide, by decide +kernel⟩
theorem csX0_isA : CalS yX0_isA cX0_isA 4 (some .boolean) 2 := ⟨cbX0_isA, tb_t 691 (by decide +kernel) (by decide +kernel)⟩
theorem cbX5_sheet : CalB yX5_sheet cX5_sheet 5 (some .int) 3 := ⟨tb_t 699 (by decide +kernel) (by decide +kernel), tb_t 1 (by decide +kernel) (by decide +kernel), by decide, by decide, by decide +kernel⟩
theorem cvX5_sheet : CalV yX5_sheet cX5_sheet 5 (some .int) 3 := ⟨cbX5_sheet, tb_t 697 (by decide +kernel) (by decide +kernel), tb_t 698 (by decide +kernel) (by decide +kernel)⟩
theorem cbX2_begin : CalB yX2_begin cX2_begin 4 none 2 := ⟨tb_t 704 (by decide +kernel) (by decide +kernel), tb_t 5 (by decide +kernel) (by decide +kernel), by decide, by decide, by decide +kernel⟩
theorem cvX2_begin : CalV yX2_begin cX2_begin 4 none 2 := ⟨cbX2_begin, tb_t 702 (by decide +kernel) (by decide +kernel), tb_t 703 (by decide +kernel) (by decide +kernel)⟩
theorem cbX5_write : CalB yX5_write cX5_write 5 (some .int) 3 := ⟨tb_t 708 (by decide +kernel) (by decide +kernel), tb_t 1 (by decide +kernel) (by decide +kernel), by decide, by decide, by decide +kernel⟩
theorem cvX5_write : CalV yX5_write cX5_write 5 (some .int) 3 := ⟨cbX5_write, tb_t 706 (by decide +kernel) (by decide +kernel), tb_t 707 (by decide +kernel) (by decide +kernel)⟩
theorem cbX2_put : CalB yX2_put cX2_put 3 none 2 := ⟨tb_t 712 (by decide +kernel) (by decide +kernel), tb_t 5 (by decide +kernel) (by decide +kernel), by decide, by decide, by decide +kernel⟩
theorem cvX2_put : CalV yX2_put cX2_put 3 none 2 := ⟨cbX2_put, tb_t 710 (by decide +kernel) (by decide +kernel), tb_t 711 (by decide +kernel) (by decide +kernel)⟩
theorem cbX5_copy : CalB yX5_copy cX5_copy 8 (some .int) 5 := ⟨tb_t 716 (by decide +kernel) (by decide +kernel), tb_t 1 (by decide +kernel) (by decide +kernel), by decide, by decide, by decide +kernel⟩
theorem cvX5_copy : CalV yX5_copy cX5_copy 8 (some .int) 5 := ⟨cbX5_copy, tb_t 714 (by decide +kernel) (by decide +kernel), tb_t 715 (by decide +kernel) (by decide +kernel)⟩
theorem cbX2_has : CalB yX2_has cX2_has 3 (some .boolean) 2 := ⟨tb_t 720 (by decide +kernel) (by decide +kernel), tb_t 5 (by decide +kernel) (by decide +kernel), by decide, by decide, by decide +kernel⟩
theorem cvX2_has : CalV yX2_has cX2_has 3 (some .boolean) 2 := ⟨cbX2_has, tb_t 718 (by decide +kernel) (by decide +kernel), tb_t 719 (by decide +kernel) (by decide +kernel)⟩
theorem cbX5_load : CalB yX5_load cX5_load 5 (some .int) 1 := ⟨tb_t 725 (by decide +kernel) (by decide +kernel), tb_t 1 (by decide +kernel) (by decide +kernel), by decide, by decide, by decide +kernel⟩
theorem cvX5_load : CalV yX5_load cX5_load 5 (some .int) 1 := ⟨cbX5_load, tb_t 723 (by decide +kernel) (by decide +kernel), tb_t 724 (by decide +kernel) (by decide +kernel)⟩
theorem cbX5_judge : CalB yX5_judge cX5_judge 7 (some .int) 1 := ⟨tb_t 729 (by decide +kernel) (by decide +kernel), tb_t 1 (by decide +kernel) (by decide +kernel), by decide, by decide, by decide +kernel⟩
theorem cvX5_judge : CalV yX5_judge cX5_judge 7 (some .int) 1 := ⟨cbX5_judge, tb_t 727 (by decide +kernel) (by decide +kernel), tb_t 728 (by decide +kernel) (by decide +kernel)⟩
theorem cbX5_image : CalB yX5_image cX5_image 1 (some .int) 0 := ⟨tb_t 734 (by decide +kernel) (by decide +kernel), tb_t 1 (by decide +kernel) (by decide +kernel), by decide, by decide, by decide +kernel⟩
theorem cvX5_image : CalV yX5_image cX5_image 1 (some .int) 0 := ⟨cbX5_image, tb_t 732 (by decide +kernel) (by decide +kernel), tb_t 733 (by decide +kernel) (by decide +kernel)⟩
theorem cbX5_undo : CalB yX5_undo cX5_undo 1 (some .int) 0 := ⟨tb_t 738 (by decide +kernel) (by decide +kernel), tb_t 1 (by decide +kernel) (by decide +kernel), by decide, by decide, by decide +kernel⟩
theorem cvX5_undo : CalV yX5_undo cX5_undo 1 (some .int) 0 := ⟨cbX5_undo, tb_t 736 (by decide +kernel) (by decide +kernel), tb_t 737 (by decide +kernel) (by decide +kernel)⟩
theorem cbX5_tear : CalB yX5_tear cX5_tear 2 (some .int) 0 := ⟨tb_t 742 (by decide +kernel) (by decide +kernel), tb_t 1 (by decide +kernel) (by decide +kernel), by decide, by decide, by decide +kernel⟩
theorem cvX5_tear : CalV yX5_tear cX5_tear 2 (some .int) 0 := ⟨cbX5_tear, tb_t 740 (by decide +kernel) (by decide +kernel), tb_t 741 (by decide +kernel) (by decide +kernel)⟩
theorem cbX5_count : CalB yX5_count cX5_count 2 (some .int) 1 := ⟨tb_t 746 (by decide +kernel) (by decide +kernel), tb_t 1 (by decide +kernel) (by decide +kernel), by decide, by decide, by decide +kernel⟩
theorem cvX5_count : CalV yX5_count cX5_count 2 (some .int) 1 := ⟨cbX5_count, tb_t 744 (by decide +kernel) (by decide +kernel), tb_t 745 (by decide +kernel) (by decide +kernel)⟩
theorem cbX1_spotsHolding : CalB yX1_spotsHolding cX1_spotsHolding 3 (some .int) 0 := ⟨tb_t 750 (by decide +kernel) (by decide +kernel), tb_t 2 (by decide +kernel) (by decide +kernel), by decide, by decide, by decide +kernel⟩
theorem cvX1_spotsHolding : CalV yX1_spotsHolding cX1_spotsHolding 3 (some .int) 0 := ⟨cbX1_spotsHolding, tb_t 748 (by decide +kernel) (by decide +kernel), tb_t 749 (by decide +kernel) (by decide +kernel)⟩
theorem cbX5_status : CalB yX5_status cX5_status 4 (some .int) 1 := ⟨tb_t 754 (by decide +kernel) (by decide +kernel), tb_t 1 (by decide +kernel) (by decide +kernel), by decide, by decide, by decide +kernel⟩
theorem cvX5_status : CalV yX5_status cX5_status 4 (some .int) 1 := ⟨cbX5_status, tb_t 752 (by decide +kernel) (by decide +kernel), tb_t 753 (by decide +kernel) (by decide +kernel)⟩
theorem cbX6_person : CalB yX6_person cX6_person 3 (some .int) 2 := ⟨tb_t 819 (by decide +kernel) (by decide +kernel), tb_t 6 (by decide +kernel) (by decide +kernel), by decide, by decide, by decide +kernel⟩
theorem cvX6_person : CalV yX6_person cX6_person 3 (some .int) 2 := ⟨cbX6_person, tb_t 817 (by decide +kernel) (by decide +kernel), tb_t 818 (by decide +kernel) (by decide +kernel)⟩
theorem cbX6_isKind : CalB yX6_isKind cX6_isKind 1 (some .boolean) 1 := ⟨tb_t 822 (by decide +kernel) (by decide +kernel), tb_t 6 (by decide +kernel) (by decide +kernel), by decide, by decide, by decide +kernel⟩
theorem csX6_isKind : CalS yX6_isKind cX6_isKind 1 (some .boolean) 1 := ⟨cbX6_isKind, tb_t 821 (by decide +kernel) (by decide +kernel)⟩
theorem cbX6_in : CalB yX6_in cX6_in 6 (some .boolean) 3 := ⟨tb_t 826 (by decide +kernel) (by decide +kernel), tb_t 6 (by decide +kernel) (by decide +kernel), by decide, by decide, by decide +kernel⟩
theorem csX6_in : CalS yX6_in cX6_in 6 (some .boolean) 3 := ⟨cbX6_in, tb_t 825 (by decide +kernel) (by decide +kernel)⟩
theorem cbX6_isSeat : CalB yX6_isSeat cX6_isSeat 1 (some .boolean) 1 := ⟨tb_t 829 (by decide +kernel) (by decide +kernel), tb_t 6 (by decide +kernel) (by decide +kernel), by decide, by decide, by decide +kernel⟩
theorem csX6_isSeat : CalS yX6_isSeat cX6_isSeat 1 (some .boolean) 1 := ⟨cbX6_isSeat, tb_t 828 (by decide +kernel) (by decide +kernel)⟩
theorem cbX6_finds : CalB yX6_finds cX6_finds 2 (some .int) 1 := ⟨tb_t 834 (by decide +kernel) (by decide +kernel), tb_t 6 (by decide +kernel) (by decide +kernel), by decide, by decide, by decide +kernel⟩
theorem cvX6_finds : CalV yX6_finds cX6_finds 2 (some .int) 1 := ⟨cbX6_finds, tb_t 833 (by decide +kernel) (by decide +kernel), tb_s 21 (by decide +kernel) (by decide +kernel)⟩
theorem cbX6_adds : CalB yX6_adds cX6_adds 4 (some .int) 2 := ⟨tb_t 839 (by decide +kernel) (by decide +kernel), tb_t 6 (by decide +kernel) (by decide +kernel), by decide, by decide, by decide +kernel⟩
theorem cvX6_adds : CalV yX6_adds cX6_adds 4 (some .int) 2 := ⟨cbX6_adds, tb_t 838 (by decide +kernel) (by decide +kernel), tb_s 22 (by decide +kernel) (by decide +kernel)⟩
theorem cbX6_sets : CalB yX6_sets cX6_sets 4 none 3 := ⟨tb_t 843 (by decide +kernel) (by decide +kernel), tb_t 6 (by decide +kernel) (by decide +kernel), by decide, by decide, by decide +kernel⟩
theorem cvX6_sets : CalV yX6_sets cX6_sets 4 none 3 := ⟨cbX6_sets, tb_t 842 (by decide +kernel) (by decide +kernel), tb_s 23 (by decide +kernel) (by decide +kernel)⟩
theorem cbX6_of : CalB yX6_of cX6_of 3 (some .int) 2 := ⟨tb_t 847 (by decide +kernel) (by decide +kernel), tb_t 6 (by decide +kernel) (by decide +kernel), by decide, by decide, by decide +kernel⟩
theorem cvX6_of : CalV yX6_of cX6_of 3 (some .int) 2 := ⟨cbX6_of, tb_t 845 (by decide +kernel) (by decide +kernel), tb_t 846 (by decide +kernel) (by decide +kernel)⟩
theorem cbX6_isPerson : CalB yX6_isPerson cX6_isPerson 2 (some .boolean) 1 := ⟨tb_t 851 (by decide +kernel) (by decide +kernel), tb_t 6 (by decide +kernel) (by decide +kernel), by decide, by decide, by decide +kernel⟩
theorem cvX6_isPerson : CalV yX6_isPerson cX6_isPerson 2 (some .boolean) 1 := ⟨cbX6_isPerson, tb_t 850 (by decide +kernel) (by decide +kernel), tb_s 24 (by decide +kernel) (by decide +kernel)⟩
theorem cbX6_bound : CalB yX6_bound cX6_bound 3 (some .int) 1 := ⟨tb_t 856 (by decide +kernel) (by decide +kernel), tb_t 6 (by decide +kernel) (by decide +kernel), by decide, by decide, by decide +kernel⟩
theorem cvX6_bound : CalV yX6_bound cX6_bound 3 (some .int) 1 := ⟨cbX6_bound, tb_t 855 (by decide +kernel) (by decide +kernel), tb_s 25 (by decide +kernel) (by decide +kernel)⟩
theorem cbX6_its : CalB yX6_its cX6_its 3 (some .int) 2 := ⟨tb_t 860 (by decide +kernel) (by decide +kernel), tb_t 6 (by decide +kernel) (by decide +kernel), by decide, by decide, by decide +kernel⟩
theorem cvX6_its : CalV yX6_its cX6_its 3 (some .int) 2 := ⟨cbX6_its, tb_t 859 (by decide +kernel) (by decide +kernel), tb_s 26 (by decide +kernel) (by decide +kernel)⟩
theorem cbX6_numberOf : CalB yX6_numberOf cX6_numberOf 2 (some .int) 1 := ⟨tb_t 865 (by decide +kernel) (by decide +kernel), tb_t 6 (by decide +kernel) (by decide +kernel), by decide, by decide, by decide +kernel⟩
theorem cvX6_numberOf : CalV yX6_numberOf cX6_numberOf 2 (some .int) 1 := ⟨cbX6_numberOf, tb_t 864 (by decide +kernel) (by decide +kernel), tb_s 27 (by decide +kernel) (by decide +kernel)⟩
theorem cbX6_near : CalB yX6_near cX6_near 5 (some .int) 1 := ⟨tb_t 869 (by decide +kernel) (by decide +kernel), tb_t 6 (by decide +kernel) (by decide +kernel), by decide, by decide, by decide +kernel⟩
theorem cvX6_near : CalV yX6_near cX6_near 5 (some .int) 1 := ⟨cbX6_near, tb_t 868 (by decide +kernel) (by decide +kernel), tb_s 28 (by decide +kernel) (by decide +kernel)⟩
theorem cbX6_ones : CalB yX6_ones cX6_ones 3 (some .int) 1 := ⟨tb_t 873 (by decide +kernel) (by decide +kernel), tb_t 6 (by decide +kernel) (by decide +kernel), by decide, by decide, by decide +kernel⟩
theorem csX6_ones : CalS yX6_ones cX6_ones 3 (some .int) 1 := ⟨cbX6_ones, tb_t 872 (by decide +kernel) (by decide +kernel)⟩
theorem cbX6_change : CalB yX6_change cX6_change 4 (some .int) 3 := ⟨tb_t 877 (by decide +kernel) (by decide +kernel), tb_t 6 (by decide +kernel) (by decide +kernel), by decide, by decide, by decide +kernel⟩
theorem cvX6_change : CalV yX6_change cX6_change 4 (some .int) 3 := ⟨cbX6_change, tb_t 875 (by decide +kernel) (by decide +kernel), tb_t 876 (by decide +kernel) (by decide +kernel)⟩
theorem cbX6_mayBe : CalB yX6_mayBe cX6_mayBe 2 (some .boolean) 2 := ⟨tb_t 880 (by decide +kernel) (by decide +kernel), tb_t 6 (by decide +kernel) (by decide +kernel), by decide, by decide, by decide +kernel⟩
theorem csX6_mayBe : CalS yX6_mayBe cX6_mayBe 2 (some .boolean) 2 := ⟨cbX6_mayBe, tb_t 879 (by decide +kernel) (by decide +kernel)⟩
theorem cbX6_becomes : CalB yX6_becomes cX6_becomes 4 (some .int) 2 := ⟨tb_t 887 (by decide +kernel) (by decide +kernel), tb_t 6 (by decide +kernel) (by decide +kernel), by decide, by decide, by decide +kernel⟩
theorem cvX6_becomes : CalV yX6_becomes cX6_becomes 4 (some .int) 2 := ⟨cbX6_becomes, tb_t 886 (by decide +kernel) (by decide +kernel), tb_s 29 (by decide +kernel) (by decide +kernel)⟩
theorem cbX6_joke : CalB yX6_joke cX6_joke 3 (some .int) 2 := ⟨tb_t 891 (by decide +kernel) (by decide +kernel), tb_t 6 (by decide +kernel) (by decide +kernel), by decide, by decide, by decide +kernel⟩
theorem cvX6_joke : CalV yX6_joke cX6_joke 3 (some .int) 2 := ⟨cbX6_joke, tb_t 889 (by decide +kernel) (by decide +kernel), tb_t 890 (by decide +kernel) (by decide +kernel)⟩
theorem cbX6_isTopics : CalB yX6_isTopics cX6_isTopics 1 (some .boolean) 1 := ⟨tb_t 894 (by decide +kernel) (by decide +kernel), tb_t 6 (by decide +kernel) (by decide +kernel), by decide, by decide, by decide +kernel⟩
theorem csX6_isTopics : CalS yX6_isTopics cX6_isTopics 1 (some .boolean) 1 := ⟨cbX6_isTopics, tb_t 893 (by decide +kernel) (by decide +kernel)⟩
theorem cbX6_isFun : CalB yX6_isFun cX6_isFun 1 (some .boolean) 1 := ⟨tb_t 897 (by decide +kernel) (by decide +kernel), tb_t 6 (by decide +kernel) (by decide +kernel), by decide, by decide, by decide +kernel⟩
theorem csX6_isFun : CalS yX6_isFun cX6_isFun 1 (some .boolean) 1 := ⟨cbX6_isFun, tb_t 896 (by decide +kernel) (by decide +kernel)⟩
theorem cbX6_addsJoke : CalB yX6_addsJoke cX6_addsJoke 4 (some .int) 2 := ⟨tb_t 901 (by decide +kernel) (by decide +kernel), tb_t 6 (by decide +kernel) (by decide +kernel), by decide, by decide, by decide +kernel⟩
theorem cvX6_addsJoke : CalV yX6_addsJoke cX6_addsJoke 4 (some .int) 2 := ⟨cbX6_addsJoke, tb_t 900 (by decide +kernel) (by decide +kernel), tb_s 30 (by decide +kernel) (by decide +kernel)⟩
theorem cbX6_jokeOf : CalB yX6_jokeOf cX6_jokeOf 3 (some .int) 2 := ⟨tb_t 905 (by decide +kernel) (by decide +kernel), tb_t 6 (by decide +kernel) (by decide +kernel), by decide, by decide, by decide +kernel⟩
theorem cvX6_jokeOf : CalV yX6_jokeOf cX6_jokeOf 3 (some .int) 2 := ⟨cbX6_jokeOf, tb_t 903 (by decide +kernel) (by decide +kernel), tb_t 904 (by decide +kernel) (by decide +kernel)⟩
theorem cbX6_isJoke : CalB yX6_isJoke cX6_isJoke 2 (some .boolean) 1 := ⟨tb_t 909 (by decide +kernel) (by decide +kernel), tb_t 6 (by decide +kernel) (by decide +kernel), by decide, by decide, by decide +kernel⟩
theorem cvX6_isJoke : CalV yX6_isJoke cX6_isJoke 2 (some .boolean) 1 := ⟨cbX6_isJoke, tb_t 908 (by decide +kernel) (by decide +kernel), tb_s 31 (by decide +kernel) (by decide +kernel)⟩
theorem cbX6_law : CalB yX6_law cX6_law 3 (some .int) 2 := ⟨tb_t 913 (by decide +kernel) (by decide +kernel), tb_t 6 (by decide +kernel) (by decide +kernel), by decide, by decide, by decide +kernel⟩
theorem cvX6_law : CalV yX6_law cX6_law 3 (some .int) 2 := ⟨cbX6_law, tb_t 911 (by decide +kernel) (by decide +kernel), tb_t 912 (by decide +kernel) (by decide +kernel)⟩
theorem cbX6_strength : CalB yX6_strength cX6_strength 6 (some .int) 3 := ⟨tb_t 918 (by decide +kernel) (by decide +kernel), tb_t 6 (by decide +kernel) (by decide +kernel), by decide, by decide, by decide +kernel⟩
theorem cvX6_strength : CalV yX6_strength cX6_strength 6 (some .int) 3 := ⟨cbX6_strength, tb_t 916 (by decide +kernel) (by decide +kernel), tb_t 917 (by decide +kernel) (by decide +kernel)⟩
theorem cbX6_strong : CalB yX6_strong cX6_strong 4 (some .int) 3 := ⟨tb_t 923 (by decide +kernel) (by decide +kernel), tb_t 6 (by decide +kernel) (by decide +kernel), by decide, by decide, by decide +kernel⟩
theorem cvX6_strong : CalV yX6_strong cX6_strong 4 (some .int) 3 := ⟨cbX6_strong, tb_t 922 (by decide +kernel) (by decide +kernel), tb_s 32 (by decide +kernel) (by decide +kernel)⟩
theorem cbX6_seconds : CalB yX6_seconds cX6_seconds 5 (some .int) 3 := ⟨tb_t 927 (by decide +kernel) (by decide +kernel), tb_t 6 (by decide +kernel) (by decide +kernel), by decide, by decide, by decide +kernel⟩
theorem cvX6_seconds : CalV yX6_seconds cX6_seconds 5 (some .int) 3 := ⟨cbX6_seconds, tb_t 926 (by decide +kernel) (by decide +kernel), tb_s 33 (by decide +kernel) (by decide +kernel)⟩
theorem cbX6_due : CalB yX6_due cX6_due 4 (some .int) 3 := ⟨tb_t 932 (by decide +kernel) (by decide +kernel), tb_t 6 (by decide +kernel) (by decide +kernel), by decide, by decide, by decide +kernel⟩
theorem cvX6_due : CalV yX6_due cX6_due 4 (some .int) 3 := ⟨cbX6_due, tb_t 931 (by decide +kernel) (by decide +kernel), tb_s 34 (by decide +kernel) (by decide +kernel)⟩
theorem cbX6_tell : CalB yX6_tell cX6_tell 2 (some .int) 1 := ⟨tb_t 936 (by decide +kernel) (by decide +kernel), tb_t 6 (by decide +kernel) (by decide +kernel), by decide, by decide, by decide +kernel⟩
theorem cvX6_tell : CalV yX6_tell cX6_tell 2 (some .int) 1 := ⟨cbX6_tell, tb_t 934 (by decide +kernel) (by decide +kernel), tb_t 935 (by decide +kernel) (by decide +kernel)⟩
theorem cbX6_tells : CalB yX6_tells cX6_tells 8 (some .int) 1 := ⟨tb_t 941 (by decide +kernel) (by decide +kernel), tb_t 6 (by decide +kernel) (by decide +kernel), by decide, by decide, by decide +kernel⟩
theorem cvX6_tells : CalV yX6_tells cX6_tells 8 (some .int) 1 := ⟨cbX6_tells, tb_t 940 (by decide +kernel) (by decide +kernel), tb_s 35 (by decide +kernel) (by decide +kernel)⟩
theorem cbX6_laughAt : CalB yX6_laughAt cX6_laughAt 3 (some .int) 2 := ⟨tb_t 945 (by decide +kernel) (by decide +kernel), tb_t 6 (by decide +kernel) (by decide +kernel), by decide, by decide, by decide +kernel⟩
theorem cvX6_laughAt : CalV yX6_laughAt cX6_laughAt 3 (some .int) 2 := ⟨cbX6_laughAt, tb_t 944 (by decide +kernel) (by decide +kernel), tb_s 36 (by decide +kernel) (by decide +kernel)⟩
theorem cbX6_byThemselves : CalB yX6_byThemselves cX6_byThemselves 5 (some .int) 2 := ⟨tb_t 949 (by decide +kernel) (by decide +kernel), tb_t 6 (by decide +kernel) (by decide +kernel), by decide, by decide, by decide +kernel⟩
theorem cvX6_byThemselves : CalV yX6_byThemselves cX6_byThemselves 5 (some .int) 2 := ⟨cbX6_byThemselves, tb_t 948 (by decide +kernel) (by decide +kernel), tb_s 37 (by decide +kernel) (by decide +kernel)⟩
theorem cbX6_everybody : CalB yX6_everybody cX6_everybody 1 (some .int) 0 := ⟨tb_t 953 (by decide +kernel) (by decide +kernel), tb_t 6 (by decide +kernel) (by decide +kernel), by decide, by decide, by decide +kernel⟩
theorem cvX6_everybody : CalV yX6_everybody cX6_everybody 1 (some .int) 0 := ⟨cbX6_everybody, tb_t 952 (by decide +kernel) (by decide +kernel), tb_s 38 (by decide +kernel) (by decide +kernel)⟩
theorem cbX6_caughtFrom : CalB yX6_caughtFrom cX6_caughtFrom 8 (some .int) 2 := ⟨tb_t 957 (by decide +kernel) (by decide +kernel), tb_t 6 (by decide +kernel) (by decide +kernel), by decide, by decide, by decide +kernel⟩
theorem cvX6_caughtFrom : CalV yX6_caughtFrom cX6_caughtFrom 8 (some .int) 2 := ⟨cbX6_caughtFrom, tb_t 956 (by decide +kernel) (by decide +kernel), tb_s 39 (by decide +kernel) (by decide +kernel)⟩
theorem cbX6_evening : CalB yX6_evening cX6_evening 5 (some .int) 2 := ⟨tb_t 962 (by decide +kernel) (by decide +kernel), tb_t 6 (by decide +kernel) (by decide +kernel), by decide, by decide, by decide +kernel⟩
theorem cvX6_evening : CalV yX6_evening cX6_evening 5 (some .int) 2 := ⟨cbX6_evening, tb_t 960 (by decide +kernel) (by decide +kernel), tb_t 961 (by decide +kernel) (by decide +kernel)⟩
theorem cbX6_now : CalB yX6_now cX6_now 2 (some .int) 1 := ⟨tb_t 967 (by decide +kernel) (by decide +kernel), tb_t 6 (by decide +kernel) (by decide +kernel), by decide, by decide, by decide +kernel⟩
theorem cvX6_now : CalV yX6_now cX6_now 2 (some .int) 1 := ⟨cbX6_now, tb_t 965 (by decide +kernel) (by decide +kernel), tb_t 966 (by decide +kernel) (by decide +kernel)⟩
theorem cbX6_sumOf : CalB yX6_sumOf cX6_sumOf 4 (some .int) 1 := ⟨tb_t 971 (by decide +kernel) (by decide +kernel), tb_t 6 (by decide +kernel) (by decide +kernel), by decide, by decide, by decide +kernel⟩
theorem cvX6_sumOf : CalV yX6_sumOf cX6_sumOf 4 (some .int) 1 := ⟨cbX6_sumOf, tb_t 970 (by decide +kernel) (by decide +kernel), tb_s 40 (by decide +kernel) (by decide +kernel)⟩
theorem cbX6_relief : CalB yX6_relief cX6_relief 4 (some .int) 1 := ⟨tb_t 975 (by decide +kernel) (by decide +kernel), tb_t 6 (by decide +kernel) (by decide +kernel), by decide, by decide, by decide +kernel⟩
theorem cvX6_relief : CalV yX6_relief cX6_relief 4 (some .int) 1 := ⟨cbX6_relief, tb_t 973 (by decide +kernel) (by decide +kernel), tb_t 974 (by decide +kernel) (by decide +kernel)⟩
theorem cbX6_poorest : CalB yX6_poorest cX6_poorest 3 (some .int) 0 := ⟨tb_t 979 (by decide +kernel) (by decide +kernel), tb_t 6 (by decide +kernel) (by decide +kernel), by decide, by decide, by decide +kernel⟩
theorem cvX6_poorest : CalV yX6_poorest cX6_poorest 3 (some .int) 0 := ⟨cbX6_poorest, tb_t 978 (by decide +kernel) (by decide +kernel), tb_s 41 (by decide +kernel) (by decide +kernel)⟩
theorem cbX6_laugh : CalB yX6_laugh cX6_laugh 3 (some .int) 2 := ⟨tb_t 983 (by decide +kernel) (by decide +kernel), tb_t 6 (by decide +kernel) (by decide +kernel), by decide, by decide, by decide +kernel⟩
theorem cvX6_laugh : CalV yX6_laugh cX6_laugh 3 (some .int) 2 := ⟨cbX6_laugh, tb_t 981 (by decide +kernel) (by decide +kernel), tb_t 982 (by decide +kernel) (by decide +kernel)⟩
theorem cbX6_laughAt_ : CalB yX6_laughAt_ cX6_laughAt_ 2 (some .int) 1 := ⟨tb_t 987 (by decide +kernel) (by decide +kernel), tb_t 6 (by decide +kernel) (by decide +kernel), by decide, by decide, by decide +kernel⟩
theorem cvX6_laughAt_ : CalV yX6_laughAt_ cX6_laughAt_ 2 (some .int) 1 := ⟨cbX6_laughAt_, tb_t 986 (by decide +kernel) (by decide +kernel), tb_s 42 (by decide +kernel) (by decide +kernel)⟩
theorem cbX6_rounds : CalB yX6_rounds cX6_rounds 3 (some .int) 1 := ⟨tb_t 991 (by decide +kernel) (by decide +kernel), tb_t 6 (by decide +kernel) (by decide +kernel), by decide, by decide, by decide +kernel⟩
theorem cvX6_rounds : CalV yX6_rounds cX6_rounds 3 (some .int) 1 := ⟨cbX6_rounds, tb_t 989 (by decide +kernel) (by decide +kernel), tb_t 990 (by decide +kernel) (by decide +kernel)⟩
theorem cbX6_raised : CalB yX6_raised cX6_raised 3 (some .int) 1 := ⟨tb_t 995 (by decide +kernel) (by decide +kernel), tb_t 6 (by decide +kernel) (by decide +kernel), by decide, by decide, by decide +kernel⟩
theorem cvX6_raised : CalV yX6_raised cX6_raised 3 (some .int) 1 := ⟨cbX6_raised, tb_t 993 (by decide +kernel) (by decide +kernel), tb_t 994 (by decide +kernel) (by decide +kernel)⟩
theorem cbX6_lends : CalB yX6_lends cX6_lends 1 none 0 := ⟨tb_t 999 (by decide +kernel) (by decide +kernel), tb_t 6 (by decide +kernel) (by decide +kernel), by decide, by decide, by decide +kernel⟩
theorem cvX6_lends : CalV yX6_lends cX6_lends 1 none 0 := ⟨cbX6_lends, tb_t 998 (by decide +kernel) (by decide +kernel), tb_s 43 (by decide +kernel) (by decide +kernel)⟩
theorem cbX6_become : CalB yX6_become cX6_become 3 none 2 := ⟨tb_t 1002 (by decide +kernel) (by decide +kernel), tb_t 6 (by decide +kernel) (by decide +kernel), by decide, by decide, by decide +kernel⟩
theorem csX6_become : CalS yX6_become cX6_become 3 none 2 := ⟨cbX6_become, tb_t 1001 (by decide +kernel) (by decide +kernel)⟩
theorem cbX6_laysBack : CalB yX6_laysBack cX6_laysBack 1 none 0 := ⟨tb_t 1006 (by decide +kernel) (by decide +kernel), tb_t 6 (by decide +kernel) (by decide +kernel), by decide, by decide, by decide +kernel⟩
theorem cvX6_laysBack : CalV yX6_laysBack cX6_laysBack 1 none 0 := ⟨cbX6_laysBack, tb_t 1005 (by decide +kernel) (by decide +kernel), tb_s 44 (by decide +kernel) (by decide +kernel)⟩
theorem cbX6_allPaid : CalB yX6_allPaid cX6_allPaid 3 (some .int) 0 := ⟨tb_t 1010 (by decide +kernel) (by decide +kernel), tb_t 6 (by decide +kernel) (by decide +kernel), by decide, by decide, by decide +kernel⟩
theorem cvX6_allPaid : CalV yX6_allPaid cX6_allPaid 3 (some .int) 0 := ⟨cbX6_allPaid, tb_t 1009 (by decide +kernel) (by decide +kernel), tb_s 45 (by decide +kernel) (by decide +kernel)⟩
theorem cbX6_ahead : CalB yX6_ahead cX6_ahead 5 (some .int) 2 := ⟨tb_t 1014 (by decide +kernel) (by decide +kernel), tb_t 6 (by decide +kernel) (by decide +kernel), by decide, by decide, by decide +kernel⟩
theorem cvX6_ahead : CalV yX6_ahead cX6_ahead 5 (some .int) 2 := ⟨cbX6_ahead, tb_t 1012 (by decide +kernel) (by decide +kernel), tb_t 1013 (by decide +kernel) (by decide +kernel)⟩
theorem cbX6_stale : CalB yX6_stale cX6_stale 4 (some .int) 1 := ⟨tb_t 1018 (by decide +kernel) (by decide +kernel), tb_t 6 (by decide +kernel) (by decide +kernel), by decide, by decide, by decide +kernel⟩
theorem cvX6_stale : CalV yX6_stale cX6_stale 4 (some .int) 1 := ⟨cbX6_stale, tb_t 1016 (by decide +kernel) (by decide +kernel), tb_t 1017 (by decide +kernel) (by decide +kernel)⟩
theorem cbX6_orNone : CalB yX6_orNone cX6_orNone 2 (some .int) 1 := ⟨tb_t 1022 (by decide +kernel) (by decide +kernel), tb_t 6 (by decide +kernel) (by decide +kernel), by decide, by decide, by decide +kernel⟩
theorem cvX6_orNone : CalV yX6_orNone cX6_orNone 2 (some .int) 1 := ⟨cbX6_orNone, tb_t 1021 (by decide +kernel) (by decide +kernel), tb_s 46 (by decide +kernel) (by decide +kernel)⟩
theorem cbX6_broke : CalB yX6_broke cX6_broke 5 (some .int) 2 := ⟨tb_t 1026 (by decide +kernel) (by decide +kernel), tb_t 6 (by decide +kernel) (by decide +kernel), by decide, by decide, by decide +kernel⟩
theorem cvX6_broke : CalV yX6_broke cX6_broke 5 (some .int) 2 := ⟨cbX6_broke, tb_t 1024 (by decide +kernel) (by decide +kernel), tb_t 1025 (by decide +kernel) (by decide +kernel)⟩
theorem cbX6_caught : CalB yX6_caught cX6_caught 2 (some .int) 1 := ⟨tb_t 1030 (by decide +kernel) (by decide +kernel), tb_t 6 (by decide +kernel) (by decide +kernel), by decide, by decide, by decide +kernel⟩
theorem cvX6_caught : CalV yX6_caught cX6_caught 2 (some .int) 1 := ⟨cbX6_caught, tb_t 1028 (by decide +kernel) (by decide +kernel), tb_t 1029 (by decide +kernel) (by decide +kernel)⟩
theorem cbX6_starter : CalB yX6_starter cX6_starter 5 (some .int) 0 := ⟨tb_t 1034 (by decide +kernel) (by decide +kernel), tb_t 6 (by decide +kernel) (by decide +kernel), by decide, by decide, by decide +kernel⟩
theorem cvX6_starter : CalV yX6_starter cX6_starter 5 (some .int) 0 := ⟨cbX6_starter, tb_t 1032 (by decide +kernel) (by decide +kernel), tb_t 1033 (by decide +kernel) (by decide +kernel)⟩
theorem cbX6_fewest : CalB yX6_fewest cX6_fewest 4 (some .int) 0 := ⟨tb_t 1038 (by decide +kernel) (by decide +kernel), tb_t 6 (by decide +kernel) (by decide +kernel), by decide, by decide, by decide +kernel⟩
theorem cvX6_fewest : CalV yX6_fewest cX6_fewest 4 (some .int) 0 := ⟨cbX6_fewest, tb_t 1036 (by decide +kernel) (by decide +kernel), tb_t 1037 (by decide +kernel) (by decide +kernel)⟩
theorem cbX6_away : CalB yX6_away cX6_away 6 (some .int) 2 := ⟨tb_t 1042 (by decide +kernel) (by decide +kernel), tb_t 6 (by decide +kernel) (by decide +kernel), by decide, by decide, by decide +kernel⟩
theorem cvX6_away : CalV yX6_away cX6_away 6 (some .int) 2 := ⟨cbX6_away, tb_t 1040 (by decide +kernel) (by decide +kernel), tb_t 1041 (by decide +kernel) (by decide +kernel)⟩
theorem cbX6_leftWithout : CalB yX6_leftWithout cX6_leftWithout 3 (some .int) 2 := ⟨tb_t 1047 (by decide +kernel) (by decide +kernel), tb_t 6 (by decide +kernel) (by decide +kernel), by decide, by decide, by decide +kernel⟩
theorem cvX6_leftWithout : CalV yX6_leftWithout cX6_leftWithout 3 (some .int) 2 := ⟨cbX6_leftWithout, tb_t 1046 (by decide +kernel) (by decide +kernel), tb_s 47 (by decide +kernel) (by decide +kernel)⟩
theorem cbX6_seatFor : CalB yX6_seatFor cX6_seatFor 8 (some .int) 2 := ⟨tb_t 1051 (by decide +kernel) (by decide +kernel), tb_t 6 (by decide +kernel) (by decide +kernel), by decide, by decide, by decide +kernel⟩
theorem cvX6_seatFor : CalV yX6_seatFor cX6_seatFor 8 (some .int) 2 := ⟨cbX6_seatFor, tb_t 1049 (by decide +kernel) (by decide +kernel), tb_t 1050 (by decide +kernel) (by decide +kernel)⟩
theorem cbX6_kindFor : CalB yX6_kindFor cX6_kindFor 8 (some .int) 2 := ⟨tb_t 1055 (by decide +kernel) (by decide +kernel), tb_t 6 (by decide +kernel) (by decide +kernel), by decide, by decide, by decide +kernel⟩
theorem cvX6_kindFor : CalV yX6_kindFor cX6_kindFor 8 (some .int) 2 := ⟨cbX6_kindFor, tb_t 1053 (by decide +kernel) (by decide +kernel), tb_t 1054 (by decide +kernel) (by decide +kernel)⟩
theorem cbX6_reachFor : CalB yX6_reachFor cX6_reachFor 5 (some .int) 1 := ⟨tb_t 1059 (by decide +kernel) (by decide +kernel), tb_t 6 (by decide +kernel) (by decide +kernel), by decide, by decide, by decide +kernel⟩
theorem cvX6_reachFor : CalV yX6_reachFor cX6_reachFor 5 (some .int) 1 := ⟨cbX6_reachFor, tb_t 1057 (by decide +kernel) (by decide +kernel), tb_t 1058 (by decide +kernel) (by decide +kernel)⟩
theorem cbX6_rateFor : CalB yX6_rateFor cX6_rateFor 9 (some .int) 2 := ⟨tb_t 1063 (by decide +kernel) (by decide +kernel), tb_t 6 (by decide +kernel) (by decide +kernel), by decide, by decide, by decide +kernel⟩
theorem cvX6_rateFor : CalV yX6_rateFor cX6_rateFor 9 (some .int) 2 := ⟨cbX6_rateFor, tb_t 1061 (by decide +kernel) (by decide +kernel), tb_t 1062 (by decide +kernel) (by decide +kernel)⟩
theorem cbX6_best : CalB yX6_best cX6_best 6 (some .int) 1 := ⟨tb_t 1067 (by decide +kernel) (by decide +kernel), tb_t 6 (by decide +kernel) (by decide +kernel), by decide, by decide, by decide +kernel⟩
theorem cvX6_best : CalV yX6_best cX6_best 6 (some .int) 1 := ⟨cbX6_best, tb_t 1065 (by decide +kernel) (by decide +kernel), tb_t 1066 (by decide +kernel) (by decide +kernel)⟩
theorem cbX6_quiet : CalB yX6_quiet cX6_quiet 6 (some .int) 1 := ⟨tb_t 1071 (by decide +kernel) (by decide +kernel), tb_t 6 (by decide +kernel) (by decide +kernel), by decide, by decide, by decide +kernel⟩
theorem cvX6_quiet : CalV yX6_quiet cX6_quiet 6 (some .int) 1 := ⟨cbX6_quiet, tb_t 1069 (by decide +kernel) (by decide +kernel), tb_t 1070 (by decide +kernel) (by decide +kernel)⟩
theorem cbX6_safe : CalB yX6_safe cX6_safe 4 (some .int) 1 := ⟨tb_t 1075 (by decide +kernel) (by decide +kernel), tb_t 6 (by decide +kernel) (by decide +kernel), by decide, by decide, by decide +kernel⟩
theorem cvX6_safe : CalV yX6_safe cX6_safe 4 (some .int) 1 := ⟨cbX6_safe, tb_t 1073 (by decide +kernel) (by decide +kernel), tb_t 1074 (by decide +kernel) (by decide +kernel)⟩
theorem cbX6_tastes : CalB yX6_tastes cX6_tastes 5 (some .int) 3 := ⟨tb_t 1079 (by decide +kernel) (by decide +kernel), tb_t 6 (by decide +kernel) (by decide +kernel), by decide, by decide, by decide +kernel⟩
theorem cvX6_tastes : CalV yX6_tastes cX6_tastes 5 (some .int) 3 := ⟨cbX6_tastes, tb_t 1077 (by decide +kernel) (by decide +kernel), tb_t 1078 (by decide +kernel) (by decide +kernel)⟩
theorem cbX6_lacksTastes : CalB yX6_lacksTastes cX6_lacksTastes 5 (some .int) 3 := ⟨tb_t 1083 (by decide +kernel) (by decide +kernel), tb_t 6 (by decide +kernel) (by decide +kernel), by decide, by decide, by decide +kernel⟩
theorem cvX6_lacksTastes : CalV yX6_lacksTastes cX6_lacksTastes 5 (some .int) 3 := ⟨cbX6_lacksTastes, tb_t 1082 (by decide +kernel) (by decide +kernel), tb_s 48 (by decide +kernel) (by decide +kernel)⟩
theorem cbX6_lacks : CalB yX6_lacks cX6_lacks 2 (some .int) 1 := ⟨tb_t 1087 (by decide +kernel) (by decide +kernel), tb_t 6 (by decide +kernel) (by decide +kernel), by decide, by decide, by decide +kernel⟩
theorem cvX6_lacks : CalV yX6_lacks cX6_lacks 2 (some .int) 1 := ⟨cbX6_lacks, tb_t 1086 (by decide +kernel) (by decide +kernel), tb_s 49 (by decide +kernel) (by decide +kernel)⟩
theorem cbX6_isSheet : CalB yX6_isSheet cX6_isSheet 1 (some .boolean) 1 := ⟨tb_t 1090 (by decide +kernel) (by decide +kernel), tb_t 6 (by decide +kernel) (by decide +kernel), by decide, by decide, by decide +kernel⟩
theorem csX6_isSheet : CalS yX6_isSheet cX6_isSheet 1 (some .boolean) 1 := ⟨cbX6_isSheet, tb_t 1089 (by decide +kernel) (by decide +kernel)⟩
theorem cbX6_findTastes : CalB yX6_findTastes cX6_findTastes 7 (some .int) 3 := ⟨tb_t 1095 (by decide +kernel) (by decide +kernel), tb_t 6 (by decide +kernel) (by decide +kernel), by decide, by decide, by decide +kernel⟩
theorem cvX6_findTastes : CalV yX6_findTastes cX6_findTastes 7 (some .int) 3 := ⟨cbX6_findTastes, tb_t 1094 (by decide +kernel) (by decide +kernel), tb_s 50 (by decide +kernel) (by decide +kernel)⟩
theorem cbX6_paysSo : CalB yX6_paysSo cX6_paysSo 8 (some .boolean) 3 := ⟨tb_t 1099 (by decide +kernel) (by decide +kernel), tb_t 6 (by decide +kernel) (by decide +kernel), by decide, by decide, by decide +kernel⟩
theorem cvX6_paysSo : CalV yX6_paysSo cX6_paysSo 8 (some .boolean) 3 := ⟨cbX6_paysSo, tb_t 1098 (by decide +kernel) (by decide +kernel), tb_s 51 (by decide +kernel) (by decide +kernel)⟩
theorem cbX6_taste : CalB yX6_taste cX6_taste 5 (some .int) 3 := ⟨tb_t 1103 (by decide +kernel) (by decide +kernel), tb_t 6 (by decide +kernel) (by decide +kernel), by decide, by decide, by decide +kernel⟩
theorem cvX6_taste : CalV yX6_taste cX6_taste 5 (some .int) 3 := ⟨cbX6_taste, tb_t 1101 (by decide +kernel) (by decide +kernel), tb_t 1102 (by decide +kernel) (by decide +kernel)⟩
theorem cbX6_which : CalB yX6_which cX6_which 9 (some .int) 1 := ⟨tb_t 1107 (by decide +kernel) (by decide +kernel), tb_t 6 (by decide +kernel) (by decide +kernel), by decide, by decide, by decide +kernel⟩
theorem cvX6_which : CalV yX6_which cX6_which 9 (some .int) 1 := ⟨cbX6_which, tb_t 1105 (by decide +kernel) (by decide +kernel), tb_t 1106 (by decide +kernel) (by decide +kernel)⟩
theorem cbX6_shows : CalB yX6_shows cX6_shows 4 (some .int) 1 := ⟨tb_t 1111 (by decide +kernel) (by decide +kernel), tb_t 6 (by decide +kernel) (by decide +kernel), by decide, by decide, by decide +kernel⟩
theorem cvX6_shows : CalV yX6_shows cX6_shows 4 (some .int) 1 := ⟨cbX6_shows, tb_t 1109 (by decide +kernel) (by decide +kernel), tb_t 1110 (by decide +kernel) (by decide +kernel)⟩
theorem cbX6_draw : CalB yX6_draw cX6_draw 1 (some .int) 0 := ⟨tb_t 1115 (by decide +kernel) (by decide +kernel), tb_t 6 (by decide +kernel) (by decide +kernel), by decide, by decide, by decide +kernel⟩
theorem cvX6_draw : CalV yX6_draw cX6_draw 1 (some .int) 0 := ⟨cbX6_draw, tb_t 1114 (by decide +kernel) (by decide +kernel), tb_s 52 (by decide +kernel) (by decide +kernel)⟩
theorem cbX6_odds : CalB yX6_odds cX6_odds 14 (some .long) 2 := ⟨tb_t 1120 (by decide +kernel) (by decide +kernel), tb_t 6 (by decide +kernel) (by decide +kernel), by decide, by decide, by decide +kernel⟩
theorem cvX6_odds : CalV yX6_odds cX6_odds 14 (some .long) 2 := ⟨cbX6_odds, tb_t 1118 (by decide +kernel) (by decide +kernel), tb_t 1119 (by decide +kernel) (by decide +kernel)⟩
theorem cbX6_seed : CalB yX6_seed cX6_seed 2 (some .int) 1 := ⟨tb_t 1125 (by decide +kernel) (by decide +kernel), tb_t 6 (by decide +kernel) (by decide +kernel), by decide, by decide, by decide +kernel⟩
theorem cvX6_seed : CalV yX6_seed cX6_seed 2 (some .int) 1 := ⟨cbX6_seed, tb_t 1123 (by decide +kernel) (by decide +kernel), tb_t 1124 (by decide +kernel) (by decide +kernel)⟩
theorem cbX6_feed : CalB yX6_feed cX6_feed 4 (some .int) 2 := ⟨tb_t 1129 (by decide +kernel) (by decide +kernel), tb_t 6 (by decide +kernel) (by decide +kernel), by decide, by decide, by decide +kernel⟩
theorem cvX6_feed : CalV yX6_feed cX6_feed 4 (some .int) 2 := ⟨cbX6_feed, tb_t 1127 (by decide +kernel) (by decide +kernel), tb_t 1128 (by decide +kernel) (by decide +kernel)⟩
theorem cbX6_wipe : CalB yX6_wipe cX6_wipe 2 (some .int) 0 := ⟨tb_t 1134 (by decide +kernel) (by decide +kernel), tb_t 6 (by decide +kernel) (by decide +kernel), by decide, by decide, by decide +kernel⟩
theorem cvX6_wipe : CalV yX6_wipe cX6_wipe 2 (some .int) 0 := ⟨cbX6_wipe, tb_t 1132 (by decide +kernel) (by decide +kernel), tb_t 1133 (by decide +kernel) (by decide +kernel)⟩
theorem cbX6_text : CalB yX6_text cX6_text 2 (some .int) 0 := ⟨tb_t 1138 (by decide +kernel) (by decide +kernel), tb_t 6 (by decide +kernel) (by decide +kernel), by decide, by decide, by decide +kernel⟩
theorem cvX6_text : CalV yX6_text cX6_text 2 (some .int) 0 := ⟨cbX6_text, tb_t 1136 (by decide +kernel) (by decide +kernel), tb_t 1137 (by decide +kernel) (by decide +kernel)⟩
theorem cbX6_next : CalB yX6_next cX6_next 3 none 0 := ⟨tb_t 1142 (by decide +kernel) (by decide +kernel), tb_t 6 (by decide +kernel) (by decide +kernel), by decide, by decide, by decide +kernel⟩
theorem cvX6_next : CalV yX6_next cX6_next 3 none 0 := ⟨cbX6_next, tb_t 1141 (by decide +kernel) (by decide +kernel), tb_s 53 (by decide +kernel) (by decide +kernel)⟩
theorem cbX6_isByte : CalB yX6_isByte cX6_isByte 4 (some .boolean) 3 := ⟨tb_t 1146 (by decide +kernel) (by decide +kernel), tb_t 6 (by decide +kernel) (by decide +kernel), by decide, by decide, by decide +kernel⟩
theorem cvX6_isByte : CalV yX6_isByte cX6_isByte 4 (some .boolean) 3 := ⟨cbX6_isByte, tb_t 1145 (by decide +kernel) (by decide +kernel), tb_s 54 (by decide +kernel) (by decide +kernel)⟩
theorem cbX6_item : CalB yX6_item cX6_item 2 none 0 := ⟨tb_t 1150 (by decide +kernel) (by decide +kernel), tb_t 6 (by decide +kernel) (by decide +kernel), by decide, by decide, by decide +kernel⟩
theorem cvX6_item : CalV yX6_item cX6_item 2 none 0 := ⟨cbX6_item, tb_t 1149 (by decide +kernel) (by decide +kernel), tb_s 55 (by decide +kernel) (by decide +kernel)⟩
theorem cbX6_kindHere : CalB yX6_kindHere cX6_kindHere 3 (some .int) 0 := ⟨tb_t 1154 (by decide +kernel) (by decide +kernel), tb_t 6 (by decide +kernel) (by decide +kernel), by decide, by decide, by decide +kernel⟩
theorem cvX6_kindHere : CalV yX6_kindHere cX6_kindHere 3 (some .int) 0 := ⟨cbX6_kindHere, tb_t 1153 (by decide +kernel) (by decide +kernel), tb_s 56 (by decide +kernel) (by decide +kernel)⟩
theorem cbX6_isWord : CalB yX6_isWord cX6_isWord 4 (some .boolean) 1 := ⟨tb_t 1159 (by decide +kernel) (by decide +kernel), tb_t 6 (by decide +kernel) (by decide +kernel), by decide, by decide, by decide +kernel⟩
theorem cvX6_isWord : CalV yX6_isWord cX6_isWord 4 (some .boolean) 1 := ⟨cbX6_isWord, tb_t 1158 (by decide +kernel) (by decide +kernel), tb_s 57 (by decide +kernel) (by decide +kernel)⟩
theorem cbX6_personTold : CalB yX6_personTold cX6_personTold 3 none 1 := ⟨tb_t 1171 (by decide +kernel) (by decide +kernel), tb_t 6 (by decide +kernel) (by decide +kernel), by decide, by decide, by decide +kernel⟩
theorem cvX6_personTold : CalV yX6_personTold cX6_personTold 3 none 1 := ⟨cbX6_personTold, tb_t 1170 (by decide +kernel) (by decide +kernel), tb_s 58 (by decide +kernel) (by decide +kernel)⟩
theorem cbX6_must : CalB yX6_must cX6_must 2 none 1 := ⟨tb_t 1175 (by decide +kernel) (by decide +kernel), tb_t 6 (by decide +kernel) (by decide +kernel), by decide, by decide, by decide +kernel⟩
theorem cvX6_must : CalV yX6_must cX6_must 2 none 1 := ⟨cbX6_must, tb_t 1174 (by decide +kernel) (by decide +kernel), tb_s 59 (by decide +kernel) (by decide +kernel)⟩
theorem cbX6_partTold : CalB yX6_partTold cX6_partTold 5 none 4 := ⟨tb_t 1180 (by decide +kernel) (by decide +kernel), tb_t 6 (by decide +kernel) (by decide +kernel), by decide, by decide, by decide +kernel⟩
theorem cvX6_partTold : CalV yX6_partTold cX6_partTold 5 none 4 := ⟨cbX6_partTold, tb_t 1179 (by decide +kernel) (by decide +kernel), tb_s 60 (by decide +kernel) (by decide +kernel)⟩
theorem cbX6_takes : CalB yX6_takes cX6_takes 3 (some .boolean) 1 := ⟨tb_t 1184 (by decide +kernel) (by decide +kernel), tb_t 6 (by decide +kernel) (by decide +kernel), by decide, by decide, by decide +kernel⟩
theorem cvX6_takes : CalV yX6_takes cX6_takes 3 (some .boolean) 1 := ⟨cbX6_takes, tb_t 1183 (by decide +kernel) (by decide +kernel), tb_s 61 (by decide +kernel) (by decide +kernel)⟩
theorem cbX6_numberRead : CalB yX6_numberRead cX6_numberRead 5 (some .int) 2 := ⟨tb_t 1188 (by decide +kernel) (by decide +kernel), tb_t 6 (by decide +kernel) (by decide +kernel), by decide, by decide, by decide +kernel⟩
theorem cvX6_numberRead : CalV yX6_numberRead cX6_numberRead 5 (some .int) 2 := ⟨cbX6_numberRead, tb_t 1187 (by decide +kernel) (by decide +kernel), tb_s 62 (by decide +kernel) (by decide +kernel)⟩
theorem cbX6_jokeTold : CalB yX6_jokeTold cX6_jokeTold 4 none 0 := ⟨tb_t 1196 (by decide +kernel) (by decide +kernel), tb_t 6 (by decide +kernel) (by decide +kernel), by decide, by decide, by decide +kernel⟩
theorem cvX6_jokeTold : CalV yX6_jokeTold cX6_jokeTold 4 none 0 := ⟨cbX6_jokeTold, tb_t 1195 (by decide +kernel) (by decide +kernel), tb_s 63 (by decide +kernel) (by decide +kernel)⟩
theorem cbX6_hold : CalB yX6_hold cX6_hold 3 (some .int) 2 := ⟨tb_t 1203 (by decide +kernel) (by decide +kernel), tb_t 6 (by decide +kernel) (by decide +kernel), by decide, by decide, by decide +kernel⟩
theorem cvX6_hold : CalV yX6_hold cX6_hold 3 (some .int) 2 := ⟨cbX6_hold, tb_t 1201 (by decide +kernel) (by decide +kernel), tb_t 1202 (by decide +kernel) (by decide +kernel)⟩
theorem cbX6_isSpot : CalB yX6_isSpot cX6_isSpot 1 (some .boolean) 1 := ⟨tb_t 1206 (by decide +kernel) (by decide +kernel), tb_t 6 (by decide +kernel) (by decide +kernel), by decide, by decide, by decide +kernel⟩
theorem csX6_isSpot : CalS yX6_isSpot cX6_isSpot 1 (some .boolean) 1 := ⟨cbX6_isSpot, tb_t 1205 (by decide +kernel) (by decide +kernel)⟩
theorem cbX6_as : CalB yX6_as cX6_as 4 (some .int) 2 := ⟨tb_t 1210 (by decide +kernel) (by decide +kernel), tb_t 6 (by decide +kernel) (by decide +kernel), by decide, by decide, by decide +kernel⟩
theorem cvX6_as : CalV yX6_as cX6_as 4 (some .int) 2 := ⟨cbX6_as, tb_t 1208 (by decide +kernel) (by decide +kernel), tb_t 1209 (by decide +kernel) (by decide +kernel)⟩
theorem cbX6_isUnder : CalB yX6_isUnder cX6_isUnder 3 (some .boolean) 2 := ⟨tb_t 1213 (by decide +kernel) (by decide +kernel), tb_t 6 (by decide +kernel) (by decide +kernel), by decide, by decide, by decide +kernel⟩
theorem csX6_isUnder : CalS yX6_isUnder cX6_isUnder 3 (some .boolean) 2 := ⟨cbX6_isUnder, tb_t 1212 (by decide +kernel) (by decide +kernel)⟩
theorem cbX6_aboveOf : CalB yX6_aboveOf cX6_aboveOf 1 (some .int) 1 := ⟨tb_t 1216 (by decide +kernel) (by decide +kernel), tb_t 6 (by decide +kernel) (by decide +kernel), by decide, by decide, by decide +kernel⟩
theorem csX6_aboveOf : CalS yX6_aboveOf cX6_aboveOf 1 (some .int) 1 := ⟨cbX6_aboveOf, tb_t 1215 (by decide +kernel) (by decide +kernel)⟩
theorem cbX6_sheet : CalB yX6_sheet cX6_sheet 6 (some .int) 3 := ⟨tb_t 1220 (by decide +kernel) (by decide +kernel), tb_t 6 (by decide +kernel) (by decide +kernel), by decide, by decide, by decide +kernel⟩
theorem cvX6_sheet : CalV yX6_sheet cX6_sheet 6 (some .int) 3 := ⟨cbX6_sheet, tb_t 1218 (by decide +kernel) (by decide +kernel), tb_t 1219 (by decide +kernel) (by decide +kernel)⟩
theorem cbX6_write : CalB yX6_write cX6_write 5 (some .int) 3 := ⟨tb_t 1224 (by decide +kernel) (by decide +kernel), tb_t 6 (by decide +kernel) (by decide +kernel), by decide, by decide, by decide +kernel⟩
theorem cvX6_write : CalV yX6_write cX6_write 5 (some .int) 3 := ⟨cbX6_write, tb_t 1222 (by decide +kernel) (by decide +kernel), tb_t 1223 (by decide +kernel) (by decide +kernel)⟩
theorem cbX6_copy : CalB yX6_copy cX6_copy 8 (some .int) 5 := ⟨tb_t 1228 (by decide +kernel) (by decide +kernel), tb_t 6 (by decide +kernel) (by decide +kernel), by decide, by decide, by decide +kernel⟩
theorem cvX6_copy : CalV yX6_copy cX6_copy 8 (some .int) 5 := ⟨cbX6_copy, tb_t 1226 (by decide +kernel) (by decide +kernel), tb_t 1227 (by decide +kernel) (by decide +kernel)⟩
theorem cbX6_load : CalB yX6_load cX6_load 4 (some .int) 1 := ⟨tb_t 1232 (by decide +kernel) (by decide +kernel), tb_t 6 (by decide +kernel) (by decide +kernel), by decide, by decide, by decide +kernel⟩
theorem cvX6_load : CalV yX6_load cX6_load 4 (some .int) 1 := ⟨cbX6_load, tb_t 1230 (by decide +kernel) (by decide +kernel), tb_t 1231 (by decide +kernel) (by decide +kernel)⟩
theorem cbX6_judge : CalB yX6_judge cX6_judge 5 (some .int) 1 := ⟨tb_t 1236 (by decide +kernel) (by decide +kernel), tb_t 6 (by decide +kernel) (by decide +kernel), by decide, by decide, by decide +kernel⟩
theorem cvX6_judge : CalV yX6_judge cX6_judge 5 (some .int) 1 := ⟨cbX6_judge, tb_t 1234 (by decide +kernel) (by decide +kernel), tb_t 1235 (by decide +kernel) (by decide +kernel)⟩
theorem cbX6_goesOn : CalB yX6_goesOn cX6_goesOn 6 (some .boolean) 2 := ⟨tb_t 1240 (by decide +kernel) (by decide +kernel), tb_t 6 (by decide +kernel) (by decide +kernel), by decide, by decide, by decide +kernel⟩
theorem cvX6_goesOn : CalV yX6_goesOn cX6_goesOn 6 (some .boolean) 2 := ⟨cbX6_goesOn, tb_t 1239 (by decide +kernel) (by decide +kernel), tb_s 64 (by decide +kernel) (by decide +kernel)⟩
theorem cbX6_image : CalB yX6_image cX6_image 1 (some .int) 0 := ⟨tb_t 1244 (by decide +kernel) (by decide +kernel), tb_t 6 (by decide +kernel) (by decide +kernel), by decide, by decide, by decide +kernel⟩
theorem cvX6_image : CalV yX6_image cX6_image 1 (some .int) 0 := ⟨cbX6_image, tb_t 1242 (by decide +kernel) (by decide +kernel), tb_t 1243 (by decide +kernel) (by decide +kernel)⟩
theorem cbX6_undo : CalB yX6_undo cX6_undo 1 (some .int) 0 := ⟨tb_t 1248 (by decide +kernel) (by decide +kernel), tb_t 6 (by decide +kernel) (by decide +kernel), by decide, by decide, by decide +kernel⟩
theorem cvX6_undo : CalV yX6_undo cX6_undo 1 (some .int) 0 := ⟨cbX6_undo, tb_t 1246 (by decide +kernel) (by decide +kernel), tb_t 1247 (by decide +kernel) (by decide +kernel)⟩
theorem cbX6_tear : CalB yX6_tear cX6_tear 2 (some .int) 0 := ⟨tb_t 1252 (by decide +kernel) (by decide +kernel), tb_t 6 (by decide +kernel) (by decide +kernel), by decide, by decide, by decide +kernel⟩
theorem cvX6_tear : CalV yX6_tear cX6_tear 2 (some .int) 0 := ⟨cbX6_tear, tb_t 1250 (by decide +kernel) (by decide +kernel), tb_t 1251 (by decide +kernel) (by decide +kernel)⟩
theorem cbX6_count : CalB yX6_count cX6_count 2 (some .int) 1 := ⟨tb_t 1256 (by decide +kernel) (by decide +kernel), tb_t 6 (by decide +kernel) (by decide +kernel), by decide, by decide, by decide +kernel⟩
theorem cvX6_count : CalV yX6_count cX6_count 2 (some .int) 1 := ⟨cbX6_count, tb_t 1254 (by decide +kernel) (by decide +kernel), tb_t 1255 (by decide +kernel) (by decide +kernel)⟩
theorem cbX6_held : CalB yX6_held cX6_held 3 (some .int) 0 := ⟨tb_t 1260 (by decide +kernel) (by decide +kernel), tb_t 6 (by decide +kernel) (by decide +kernel), by decide, by decide, by decide +kernel⟩
theorem cvX6_held : CalV yX6_held cX6_held 3 (some .int) 0 := ⟨cbX6_held, tb_t 1259 (by decide +kernel) (by decide +kernel), tb_s 65 (by decide +kernel) (by decide +kernel)⟩
theorem cbX6_status : CalB yX6_status cX6_status 4 (some .int) 1 := ⟨tb_t 1264 (by decide +kernel) (by decide +kernel), tb_t 6 (by decide +kernel) (by decide +kernel), by decide, by decide, by decide +kernel⟩
theorem cvX6_status : CalV yX6_status cX6_status 4 (some .int) 1 := ⟨cbX6_status, tb_t 1262 (by decide +kernel) (by decide +kernel), tb_t 1263 (by decide +kernel) (by decide +kernel)⟩
