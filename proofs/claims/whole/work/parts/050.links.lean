theorem tt1 {w : Cond} (h : w ∈ tables_1_1) : w ∈ tables_1 := List.mem_append_left _ h
theorem tg1 {w : Cond} (h : w ∈ tables_1_1) (g : goodWord w = true) : w ∈ rp_TG := List.mem_filter.mpr ⟨List.mem_append_right _ (tt1 h), g⟩
theorem nw1 {w : Cond} (h : w ∈ tables_1_1) (g : rp_isN w = true) : w ∈ rp_NW := List.mem_filter.mpr ⟨tt1 h, g⟩
theorem tt2 {w : Cond} (h : w ∈ tables_1_2) : w ∈ tables_1 := List.mem_append_right _ (List.mem_append_left _ h)
theorem tg2 {w : Cond} (h : w ∈ tables_1_2) (g : goodWord w = true) : w ∈ rp_TG := List.mem_filter.mpr ⟨List.mem_append_right _ (tt2 h), g⟩
theorem nw2 {w : Cond} (h : w ∈ tables_1_2) (g : rp_isN w = true) : w ∈ rp_NW := List.mem_filter.mpr ⟨tt2 h, g⟩
theorem tt3 {w : Cond} (h : w ∈ tables_1_3) : w ∈ tables_1 := List.mem_append_right _ (List.mem_append_right _ (List.mem_append_left _ h))
theorem tg3 {w : Cond} (h : w ∈ tables_1_3) (g : goodWord w = true) : w ∈ rp_TG := List.mem_filter.mpr ⟨List.mem_append_right _ (tt3 h), g⟩
theorem nw3 {w : Cond} (h : w ∈ tables_1_3) (g : rp_isN w = true) : w ∈ rp_NW := List.mem_filter.mpr ⟨tt3 h, g⟩
theorem tt4 {w : Cond} (h : w ∈ tables_1_4) : w ∈ tables_1 := List.mem_append_right _ (List.mem_append_right _ (List.mem_append_right _ (List.mem_append_left _ h)))
theorem tg4 {w : Cond} (h : w ∈ tables_1_4) (g : goodWord w = true) : w ∈ rp_TG := List.mem_filter.mpr ⟨List.mem_append_right _ (tt4 h), g⟩
theorem nw4 {w : Cond} (h : w ∈ tables_1_4) (g : rp_isN w = true) : w ∈ rp_NW := List.mem_filter.mpr ⟨tt4 h, g⟩
theorem tt5 {w : Cond} (h : w ∈ tables_1_5) : w ∈ tables_1 := List.mem_append_right _ (List.mem_append_right _ (List.mem_append_right _ (List.mem_append_right _ (List.mem_append_left _ h))))
theorem tg5 {w : Cond} (h : w ∈ tables_1_5) (g : goodWord w = true) : w ∈ rp_TG := List.mem_filter.mpr ⟨List.mem_append_right _ (tt5 h), g⟩
theorem nw5 {w : Cond} (h : w ∈ tables_1_5) (g : rp_isN w = true) : w ∈ rp_NW := List.mem_filter.mpr ⟨tt5 h, g⟩
theorem tt6 {w : Cond} (h : w ∈ tables_1_6) : w ∈ tables_1 := List.mem_append_right _ (List.mem_append_right _ (List.mem_append_right _ (List.mem_append_right _ (List.mem_append_right _ (h)))))
theorem tg6 {w : Cond} (h : w ∈ tables_1_6) (g : goodWord w = true) : w ∈ rp_TG := List.mem_filter.mpr ⟨List.mem_append_right _ (tt6 h), g⟩
theorem nw6 {w : Cond} (h : w ∈ tables_1_6) (g : rp_isN w = true) : w ∈ rp_NW := List.mem_filter.mpr ⟨tt6 h, g⟩
theorem tgs {w : Cond} (h : w ∈ k2_sels lw_privs) (g : goodWord w = true) : w ∈ rp_TG := List.mem_filter.mpr ⟨List.mem_append_left _ h, g⟩
theorem inw0 : ∀ w ∈ u_ws RX0 TX0 2, w ∈ rp_TG := by
  intro w hw
  obtain ⟨k, hk, rfl⟩ := List.mem_map.mp hw
  have hk := List.mem_range.mp hk
  match k, hk with
  | 0, _ => exact (tg1 (List.mem_of_getElem? (i := 95) (by decide +kernel)) rfl)
  | 1, _ => exact (tg1 (List.mem_of_getElem? (i := 97) (by decide +kernel)) rfl)
theorem cf0 : rp_Cf (RX0, TX0, 2) := ⟨inw0, ⟨tyX0, tyX0_ok⟩, nmX0⟩
theorem inw1 : ∀ w ∈ u_ws RX1 TX1 6, w ∈ rp_TG := by
  intro w hw
  obtain ⟨k, hk, rfl⟩ := List.mem_map.mp hw
  have hk := List.mem_range.mp hk
  match k, hk with
  | 0, _ => exact (tg1 (List.mem_of_getElem? (i := 46) (by decide +kernel)) rfl)
  | 1, _ => exact (tg1 (List.mem_of_getElem? (i := 48) (by decide +kernel)) rfl)
  | 2, _ => exact (tg1 (List.mem_of_getElem? (i := 50) (by decide +kernel)) rfl)
  | 3, _ => exact (tg1 (List.mem_of_getElem? (i := 52) (by decide +kernel)) rfl)
  | 4, _ => exact (tg1 (List.mem_of_getElem? (i := 54) (by decide +kernel)) rfl)
  | 5, _ => exact (tg1 (List.mem_of_getElem? (i := 56) (by decide +kernel)) rfl)
theorem cf1 : rp_Cf (RX1, TX1, 6) := ⟨inw1, ⟨tyX1, tyX1_ok⟩, nmX1⟩
theorem inw2 : ∀ w ∈ u_ws RX2 TX2 4, w ∈ rp_TG := by
  intro w hw
  obtain ⟨k, hk, rfl⟩ := List.mem_map.mp hw
  have hk := List.mem_range.mp hk
  match k, hk with
  | 0, _ => exact (tg1 (List.mem_of_getElem? (i := 166) (by decide +kernel)) rfl)
  | 1, _ => exact (tg1 (List.mem_of_getElem? (i := 168) (by decide +kernel)) rfl)
  | 2, _ => exact (tg1 (List.mem_of_getElem? (i := 170) (by decide +kernel)) rfl)
  | 3, _ => exact (tg1 (List.mem_of_getElem? (i := 172) (by decide +kernel)) rfl)
theorem cf2 : rp_Cf (RX2, TX2, 4) := ⟨inw2, ⟨tyX2, tyX2_ok⟩, nmX2⟩
theorem inw3 : ∀ w ∈ u_ws RX3 TX3 5, w ∈ rp_TG := by
  intro w hw
  obtain ⟨k, hk, rfl⟩ := List.mem_map.mp hw
  have hk := List.mem_range.mp hk
  match k, hk with
  | 0, _ => exact (tg1 (List.mem_of_getElem? (i := 74) (by decide +kernel)) rfl)
  | 1, _ => exact (tg1 (List.mem_of_getElem? (i := 76) (by decide +kernel)) rfl)
  | 2, _ => exact (tg1 (List.mem_of_getElem? (i := 78) (by decide +kernel)) rfl)
  | 3, _ => exact (tg1 (List.mem_of_getElem? (i := 80) (by decide +kernel)) rfl)
  | 4, _ => exact (tg1 (List.mem_of_getElem? (i := 82) (by decide +kernel)) rfl)
theorem cf3 : rp_Cf (RX3, TX3, 5) := ⟨inw3, ⟨tyX3, tyX3_ok⟩, nmX3⟩
theorem inw4 : ∀ w ∈ u_ws RX4 TX4 3, w ∈ rp_TG := by
  intro w hw
  obtain ⟨k, hk, rfl⟩ := List.mem_map.mp hw
  have hk := List.mem_range.mp hk
  match k, hk with
  | 0, _ => exact (tg1 (List.mem_of_getElem? (i := 149) (by decide +kernel)) rfl)
  | 1, _ => exact (tg1 (List.mem_of_getElem? (i := 151) (by decide +kernel)) rfl)
  | 2, _ => exact (tg1 (List.mem_of_getElem? (i := 153) (by decide +kernel)) rfl)
theorem cf4 : rp_Cf (RX4, TX4, 3) := ⟨inw4, ⟨tyX4, tyX4_ok⟩, nmX4⟩
theorem inw5 : ∀ w ∈ u_ws RX5 TX5 9, w ∈ rp_TG := by
  intro w hw
  obtain ⟨k, hk, rfl⟩ := List.mem_map.mp hw
  have hk := List.mem_range.mp hk
  match k, hk with
  | 0, _ => exact (tg1 (List.mem_of_getElem? (i := 119) (by decide +kernel)) rfl)
  | 1, _ => exact (tg1 (List.mem_of_getElem? (i := 121) (by decide +kernel)) rfl)
  | 2, _ => exact (tg1 (List.mem_of_getElem? (i := 123) (by decide +kernel)) rfl)
  | 3, _ => exact (tg1 (List.mem_of_getElem? (i := 125) (by decide +kernel)) rfl)
  | 4, _ => exact (tg1 (List.mem_of_getElem? (i := 127) (by decide +kernel)) rfl)
  | 5, _ => exact (tg1 (List.mem_of_getElem? (i := 129) (by decide +kernel)) rfl)
  | 6, _ => exact (tg1 (List.mem_of_getElem? (i := 131) (by decide +kernel)) rfl)
  | 7, _ => exact (tg1 (List.mem_of_getElem? (i := 133) (by decide +kernel)) rfl)
  | 8, _ => exact (tg1 (List.mem_of_getElem? (i := 135) (by decide +kernel)) rfl)
theorem cf5 : rp_Cf (RX5, TX5, 9) := ⟨inw5, ⟨tyX5, tyX5_ok⟩, nmX5⟩
theorem inw6 : ∀ w ∈ u_ws RX6 TX6 10, w ∈ rp_TG := by
  intro w hw
  obtain ⟨k, hk, rfl⟩ := List.mem_map.mp hw
  have hk := List.mem_range.mp hk
  match k, hk with
  | 0, _ => exact (tg1 (List.mem_of_getElem? (i := 185) (by decide +kernel)) rfl)
  | 1, _ => exact (tg1 (List.mem_of_getElem? (i := 187) (by decide +kernel)) rfl)
  | 2, _ => exact (tg1 (List.mem_of_getElem? (i := 189) (by decide +kernel)) rfl)
  | 3, _ => exact (tg1 (List.mem_of_getElem? (i := 191) (by decide +kernel)) rfl)
  | 4, _ => exact (tg1 (List.mem_of_getElem? (i := 193) (by decide +kernel)) rfl)
  | 5, _ => exact (tg1 (List.mem_of_getElem? (i := 195) (by decide +kernel)) rfl)
  | 6, _ => exact (tg1 (List.mem_of_getElem? (i := 197) (by decide +kernel)) rfl)
  | 7, _ => exact (tg1 (List.mem_of_getElem? (i := 199) (by decide +kernel)) rfl)
  | 8, _ => exact (tg1 (List.mem_of_getElem? (i := 201) (by decide +kernel)) rfl)
  | 9, _ => exact (tg1 (List.mem_of_getElem? (i := 203) (by decide +kernel)) rfl)
theorem cf6 : rp_Cf (RX6, TX6, 10) := ⟨inw6, ⟨tyX6, tyX6_ok⟩, nmX6⟩
theorem inw7 : ∀ w ∈ u_ws RX7 TX7 27, w ∈ rp_TG := by
  intro w hw
  obtain ⟨k, hk, rfl⟩ := List.mem_map.mp hw
  have hk := List.mem_range.mp hk
  match k, hk with
  | 0, _ => exact (tg4 (List.mem_of_getElem? (i := 118) (by decide +kernel)) rfl)
  | 1, _ => exact (tg4 (List.mem_of_getElem? (i := 120) (by decide +kernel)) rfl)
  | 2, _ => exact (tg4 (List.mem_of_getElem? (i := 122) (by decide +kernel)) rfl)
  | 3, _ => exact (tg4 (List.mem_of_getElem? (i := 124) (by decide +kernel)) rfl)
  | 4, _ => exact (tg4 (List.mem_of_getElem? (i := 126) (by decide +kernel)) rfl)
  | 5, _ => exact (tg4 (List.mem_of_getElem? (i := 128) (by decide +kernel)) rfl)
  | 6, _ => exact (tg4 (List.mem_of_getElem? (i := 130) (by decide +kernel)) rfl)
  | 7, _ => exact (tg4 (List.mem_of_getElem? (i := 132) (by decide +kernel)) rfl)
  | 8, _ => exact (tg4 (List.mem_of_getElem? (i := 134) (by decide +kernel)) rfl)
  | 9, _ => exact (tg4 (List.mem_of_getElem? (i := 136) (by decide +kernel)) rfl)
  | 10, _ => exact (tg4 (List.mem_of_getElem? (i := 138) (by decide +kernel)) rfl)
  | 11, _ => exact (tg4 (List.mem_of_getElem? (i := 140) (by decide +kernel)) rfl)
  | 12, _ => exact (tg4 (List.mem_of_getElem? (i := 142) (by decide +kernel)) rfl)
  | 13, _ => exact (tg4 (List.mem_of_getElem? (i := 144) (by decide +kernel)) rfl)
  | 14, _ => exact (tg4 (List.mem_of_getElem? (i := 146) (by decide +kernel)) rfl)
  | 15, _ => exact (tg4 (List.mem_of_getElem? (i := 148) (by decide +kernel)) rfl)
  | 16, _ => exact (tg4 (List.mem_of_getElem? (i := 150) (by decide +kernel)) rfl)
  | 17, _ => exact (tg4 (List.mem_of_getElem? (i := 152) (by decide +kernel)) rfl)
  | 18, _ => exact (tg4 (List.mem_of_getElem? (i := 154) (by decide +kernel)) rfl)
  | 19, _ => exact (tg4 (List.mem_of_getElem? (i := 156) (by decide +kernel)) rfl)
  | 20, _ => exact (tg4 (List.mem_of_getElem? (i := 158) (by decide +kernel)) rfl)
  | 21, _ => exact (tg4 (List.mem_of_getElem? (i := 160) (by decide +kernel)) rfl)
  | 22, _ => exact (tg4 (List.mem_of_getElem? (i := 162) (by decide +kernel)) rfl)
  | 23, _ => exact (tg4 (List.mem_of_getElem? (i := 164) (by decide +kernel)) rfl)
  | 24, _ => exact (tg4 (List.mem_of_getElem? (i := 166) (by decide +kernel)) rfl)
  | 25, _ => exact (tg4 (List.mem_of_getElem? (i := 168) (by decide +kernel)) rfl)
  | 26, _ => exact (tg4 (List.mem_of_getElem? (i := 170) (by decide +kernel)) rfl)
  | k + 27, hk => exact absurd hk (by omega)
theorem cf7 : rp_Cf (RX7, TX7, 27) := ⟨inw7, ⟨tyX7, tyX7_ok⟩, nmX7⟩
theorem sh0 : rp_sh[0]? = some (.inl (6, [some 1, some 4, some 12, some 13, some 15, some 18, some 22, some 25, none, none])) := rfl
theorem sh1 : rp_sh[1]? = some (.inl (1, [some 2, some 3, none, none, none, none])) := rfl
theorem sh2 : rp_sh[2]? = some (.inr (0, 24)) := rfl
theorem sh3 : rp_sh[3]? = some (.inr (0, 8)) := rfl
theorem sh4 : rp_sh[4]? = some (.inl (3, [some 5, some 8, some 9, some 10, some 11])) := rfl
theorem sh5 : rp_sh[5]? = some (.inl (1, [some 6, some 7, none, none, none, none])) := rfl
theorem sh6 : rp_sh[6]? = some (.inr (0, 24)) := rfl
theorem sh7 : rp_sh[7]? = some (.inr (0, 8)) := rfl
theorem sh8 : rp_sh[8]? = some (.inr (0, 6)) := rfl
theorem sh9 : rp_sh[9]? = some (.inr (0, 6)) := rfl
theorem sh10 : rp_sh[10]? = some (.inr (0, 6)) := rfl
theorem sh11 : rp_sh[11]? = some (.inr (0, 6)) := rfl
theorem sh12 : rp_sh[12]? = some (.inl (0, [none, none])) := rfl
theorem sh13 : rp_sh[13]? = some (.inl (5, [some 14, none, none, none, none, none, none, none, none])) := rfl
theorem sh14 : rp_sh[14]? = some (.inr (1, 160)) := rfl
theorem sh15 : rp_sh[15]? = some (.inl (4, [some 16, some 17, none])) := rfl
theorem sh16 : rp_sh[16]? = some (.inr (0, 6)) := rfl
theorem sh17 : rp_sh[17]? = some (.inr (0, 6)) := rfl
theorem sh18 : rp_sh[18]? = some (.inl (2, [some 19, some 20, some 21, none])) := rfl
theorem sh19 : rp_sh[19]? = some (.inr (0, 160)) := rfl
theorem sh20 : rp_sh[20]? = some (.inr (0, 4)) := rfl
theorem sh21 : rp_sh[21]? = some (.inr (0, 4)) := rfl
theorem sh22 : rp_sh[22]? = some (.inl (1, [some 23, some 24, none, none, none, none])) := rfl
theorem sh23 : rp_sh[23]? = some (.inr (0, 24)) := rfl
theorem sh24 : rp_sh[24]? = some (.inr (0, 8)) := rfl
theorem sh25 : rp_sh[25]? = some (.inl (1, [some 26, some 27, none, none, none, none])) := rfl
theorem sh26 : rp_sh[26]? = some (.inr (0, 24)) := rfl
theorem sh27 : rp_sh[27]? = some (.inr (0, 8)) := rfl
theorem sh28 : rp_sh[28]? = some (.inl (7, [some 29, some 30, none, some 31, none, none, none, none, none, none, none, none, some 32, some 33, none, some 34, none, none, none, some 35, none, some 36, some 37, some 38, some 39, some 40, none])) := rfl
theorem sh29 : rp_sh[29]? = some (.inr (0, 180)) := rfl
theorem sh30 : rp_sh[30]? = some (.inr (0, 36)) := rfl
theorem sh31 : rp_sh[31]? = some (.inr (0, 160)) := rfl
theorem sh32 : rp_sh[32]? = some (.inr (0, 8)) := rfl
theorem sh33 : rp_sh[33]? = some (.inr (0, 36)) := rfl
theorem sh34 : rp_sh[34]? = some (.inr (0, 24)) := rfl
theorem sh35 : rp_sh[35]? = some (.inr (0, 12)) := rfl
theorem sh36 : rp_sh[36]? = some (.inr (0, 54)) := rfl
theorem sh37 : rp_sh[37]? = some (.inr (2, 2)) := rfl
theorem sh38 : rp_sh[38]? = some (.inr (0, 4)) := rfl
theorem sh39 : rp_sh[39]? = some (.inr (0, 4)) := rfl
theorem sh40 : rp_sh[40]? = some (.inr (0, 160)) := rfl
/-- a night lies there, its rows behind it -/
def rp_Ni (a : Nat) : Prop := rp_sh[a]? = some (.inl (1, [some (a + 1), some (a + 2), none, none, none, none])) ∧ rp_sh[a + 1]? = some (.inr (0, 24)) ∧ rp_sh[a + 2]? = some (.inr (0, 8))
theorem ni1 : rp_Ni 1 := ⟨rfl, rfl, rfl⟩
theorem ni5 : rp_Ni 5 := ⟨rfl, rfl, rfl⟩
theorem ni22 : rp_Ni 22 := ⟨rfl, rfl, rfl⟩
theorem ni25 : rp_Ni 25 := ⟨rfl, rfl, rfl⟩
theorem fdX6_10 : rp_Fd RX6 10 6 0 := ⟨(RX6, TX6, 10), rfl, cf6, by decide, Or.inl (tg1 (List.mem_of_getElem? (i := 175) (by decide +kernel)) rfl)⟩
theorem fdX6_19 : rp_Fd RX6 19 6 1 := ⟨(RX6, TX6, 10), rfl, cf6, by decide, Or.inl (tg1 (List.mem_of_getElem? (i := 176) (by decide +kernel)) rfl)⟩
theorem fdX6_26 : rp_Fd RX6 26 6 2 := ⟨(RX6, TX6, 10), rfl, cf6, by decide, Or.inl (tg1 (List.mem_of_getElem? (i := 177) (by decide +kernel)) rfl)⟩
theorem fdX6_33 : rp_Fd RX6 33 6 3 := ⟨(RX6, TX6, 10), rfl, cf6, by decide, Or.inl (tg1 (List.mem_of_getElem? (i := 178) (by decide +kernel)) rfl)⟩
theorem fdX6_40 : rp_Fd RX6 40 6 4 := ⟨(RX6, TX6, 10), rfl, cf6, by decide, Or.inl (tg1 (List.mem_of_getElem? (i := 179) (by decide +kernel)) rfl)⟩
theorem fdX6_47 : rp_Fd RX6 47 6 5 := ⟨(RX6, TX6, 10), rfl, cf6, by decide, Or.inl (tg1 (List.mem_of_getElem? (i := 180) (by decide +kernel)) rfl)⟩
theorem fdX6_51 : rp_Fd RX6 51 6 6 := ⟨(RX6, TX6, 10), rfl, cf6, by decide, Or.inl (tg1 (List.mem_of_getElem? (i := 181) (by decide +kernel)) rfl)⟩
theorem fdX6_54 : rp_Fd RX6 54 6 7 := ⟨(RX6, TX6, 10), rfl, cf6, by decide, Or.inl (tg1 (List.mem_of_getElem? (i := 182) (by decide +kernel)) rfl)⟩
theorem fdX6_61 : rp_Fd RX6 61 5 1 := ⟨(RX5, TX5, 9), rfl, cf5, by decide, Or.inr ⟨"RocketPrint", (nw1 (List.mem_of_getElem? (i := 108) (by decide +kernel)) rfl)⟩⟩
theorem fdX6_65 : rp_Fd RX6 65 5 0 := ⟨(RX5, TX5, 9), rfl, cf5, by decide, Or.inr ⟨"RocketPrint", (nw1 (List.mem_of_getElem? (i := 107) (by decide +kernel)) rfl)⟩⟩
theorem fdX6_69 : rp_Fd RX6 69 3 0 := ⟨(RX3, TX3, 5), rfl, cf3, by decide, Or.inr ⟨"RocketPrint", (nw1 (List.mem_of_getElem? (i := 69) (by decide +kernel)) rfl)⟩⟩
theorem fdX6_76 : rp_Fd RX6 76 5 2 := ⟨(RX5, TX5, 9), rfl, cf5, by decide, Or.inr ⟨"RocketPrint", (nw1 (List.mem_of_getElem? (i := 111) (by decide +kernel)) rfl)⟩⟩
theorem fdX6_79 : rp_Fd RX6 79 5 4 := ⟨(RX5, TX5, 9), rfl, cf5, by decide, Or.inr ⟨"RocketPrint", (nw1 (List.mem_of_getElem? (i := 113) (by decide +kernel)) rfl)⟩⟩
theorem fdX6_86 : rp_Fd RX6 86 4 2 := ⟨(RX4, TX4, 3), rfl, cf4, by decide, Or.inr ⟨"RocketPrint", (nw1 (List.mem_of_getElem? (i := 148) (by decide +kernel)) rfl)⟩⟩
theorem fdX6_89 : rp_Fd RX6 89 6 8 := ⟨(RX6, TX6, 10), rfl, cf6, by decide, Or.inl (tg1 (List.mem_of_getElem? (i := 183) (by decide +kernel)) rfl)⟩
theorem fdX6_92 : rp_Fd RX6 92 1 2 := ⟨(RX1, TX1, 6), rfl, cf1, by decide, Or.inr ⟨"RocketPrint", (nw1 (List.mem_of_getElem? (i := 35) (by decide +kernel)) rfl)⟩⟩
theorem fdX6_95 : rp_Fd RX6 95 1 3 := ⟨(RX1, TX1, 6), rfl, cf1, by decide, Or.inr ⟨"RocketPrint", (nw1 (List.mem_of_getElem? (i := 38) (by decide +kernel)) rfl)⟩⟩
theorem fdX6_98 : rp_Fd RX6 98 1 4 := ⟨(RX1, TX1, 6), rfl, cf1, by decide, Or.inr ⟨"RocketPrint", (nw1 (List.mem_of_getElem? (i := 42) (by decide +kernel)) rfl)⟩⟩
theorem fdX6_101 : rp_Fd RX6 101 1 5 := ⟨(RX1, TX1, 6), rfl, cf1, by decide, Or.inr ⟨"RocketPrint", (nw1 (List.mem_of_getElem? (i := 44) (by decide +kernel)) rfl)⟩⟩
theorem fdX6_261 : rp_Fd RX6 261 0 0 := ⟨(RX0, TX0, 2), rfl, cf0, by decide, Or.inr ⟨"RocketPrint", (nw1 (List.mem_of_getElem? (i := 92) (by decide +kernel)) rfl)⟩⟩
theorem fdX6_264 : rp_Fd RX6 264 0 1 := ⟨(RX0, TX0, 2), rfl, cf0, by decide, Or.inr ⟨"RocketPrint", (nw1 (List.mem_of_getElem? (i := 94) (by decide +kernel)) rfl)⟩⟩
theorem fdX6_296 : rp_Fd RX6 296 6 9 := ⟨(RX6, TX6, 10), rfl, cf6, by decide, Or.inl (tg1 (List.mem_of_getElem? (i := 184) (by decide +kernel)) rfl)⟩
theorem slX6_197 : rp_Sl RX6 197 1 := Or.inl (tg2 (List.mem_of_getElem? (i := 95) (by decide +kernel)) rfl)
theorem slX6_215 : rp_Sl RX6 215 0 := Or.inl (tg2 (List.mem_of_getElem? (i := 94) (by decide +kernel)) rfl)
theorem slX6_314 : rp_Sl RX6 314 2 := Or.inl (tg2 (List.mem_of_getElem? (i := 113) (by decide +kernel)) rfl)
theorem clX6_224 : Cond.constantLong RX6 224 (rJ (-1)) ∈ rp_TG := (tg3 (List.mem_of_getElem? (i := 178) (by decide +kernel)) rfl)
theorem clX6_240 : Cond.constantLong RX6 240 (rJ 10) ∈ rp_TG := (tg3 (List.mem_of_getElem? (i := 190) (by decide +kernel)) rfl)
theorem ciX6_276 : Cond.constant RX6 276 (rI 1103515245) ∈ rp_TG := (tg4 (List.mem_of_getElem? (i := 9) (by decide +kernel)) rfl)
theorem fpX6_61 : rp_Fp RX6 61 5 1 .int := ⟨fdX6_61, (RX5, TX5, 9), rfl, rfl, by decide +kernel⟩
theorem fpX6_86 : rp_Fp RX6 86 4 2 .int := ⟨fdX6_86, (RX4, TX4, 3), rfl, rfl, by decide +kernel⟩
theorem fpX6_89 : rp_Fp RX6 89 6 8 .int := ⟨fdX6_89, (RX6, TX6, 10), rfl, rfl, by decide +kernel⟩
theorem fpX6_92 : rp_Fp RX6 92 1 2 .int := ⟨fdX6_92, (RX1, TX1, 6), rfl, rfl, by decide +kernel⟩
theorem fpX6_95 : rp_Fp RX6 95 1 3 .int := ⟨fdX6_95, (RX1, TX1, 6), rfl, rfl, by decide +kernel⟩
theorem fpX6_98 : rp_Fp RX6 98 1 4 .int := ⟨fdX6_98, (RX1, TX1, 6), rfl, rfl, by decide +kernel⟩
theorem fpX6_101 : rp_Fp RX6 101 1 5 .int := ⟨fdX6_101, (RX1, TX1, 6), rfl, rfl, by decide +kernel⟩
theorem fpX6_296 : rp_Fp RX6 296 6 9 .int := ⟨fdX6_296, (RX6, TX6, 10), rfl, rfl, by decide +kernel⟩
theorem fdX0_9 : rp_Fd RX0 9 0 0 := ⟨(RX0, TX0, 2), rfl, cf0, by decide, Or.inl (tg1 (List.mem_of_getElem? (i := 91) (by decide +kernel)) rfl)⟩
theorem fdX0_15 : rp_Fd RX0 15 0 1 := ⟨(RX0, TX0, 2), rfl, cf0, by decide, Or.inl (tg1 (List.mem_of_getElem? (i := 93) (by decide +kernel)) rfl)⟩
theorem fpX0_9 : rp_Fp RX0 9 0 0 .int := ⟨fdX0_9, (RX0, TX0, 2), rfl, rfl, by decide +kernel⟩
theorem fpX0_15 : rp_Fp RX0 15 0 1 .int := ⟨fdX0_15, (RX0, TX0, 2), rfl, rfl, by decide +kernel⟩
theorem fdX1_9 : rp_Fd RX1 9 1 0 := ⟨(RX1, TX1, 6), rfl, cf1, by decide, Or.inl (tg1 (List.mem_of_getElem? (i := 30) (by decide +kernel)) rfl)⟩
theorem fdX1_15 : rp_Fd RX1 15 1 1 := ⟨(RX1, TX1, 6), rfl, cf1, by decide, Or.inl (tg1 (List.mem_of_getElem? (i := 31) (by decide +kernel)) rfl)⟩
theorem fdX1_18 : rp_Fd RX1 18 1 4 := ⟨(RX1, TX1, 6), rfl, cf1, by decide, Or.inl (tg1 (List.mem_of_getElem? (i := 40) (by decide +kernel)) rfl)⟩
theorem fdX1_22 : rp_Fd RX1 22 1 2 := ⟨(RX1, TX1, 6), rfl, cf1, by decide, Or.inl (tg1 (List.mem_of_getElem? (i := 32) (by decide +kernel)) rfl)⟩
theorem fdX1_25 : rp_Fd RX1 25 1 3 := ⟨(RX1, TX1, 6), rfl, cf1, by decide, Or.inl (tg1 (List.mem_of_getElem? (i := 36) (by decide +kernel)) rfl)⟩
theorem fdX1_28 : rp_Fd RX1 28 1 5 := ⟨(RX1, TX1, 6), rfl, cf1, by decide, Or.inl (tg1 (List.mem_of_getElem? (i := 43) (by decide +kernel)) rfl)⟩
theorem fpX1_18 : rp_Fp RX1 18 1 4 .int := ⟨fdX1_18, (RX1, TX1, 6), rfl, rfl, by decide +kernel⟩
theorem fpX1_22 : rp_Fp RX1 22 1 2 .int := ⟨fdX1_22, (RX1, TX1, 6), rfl, rfl, by decide +kernel⟩
theorem fpX1_25 : rp_Fp RX1 25 1 3 .int := ⟨fdX1_25, (RX1, TX1, 6), rfl, rfl, by decide +kernel⟩
theorem fpX1_28 : rp_Fp RX1 28 1 5 .int := ⟨fdX1_28, (RX1, TX1, 6), rfl, rfl, by decide +kernel⟩
theorem fdX2_9 : rp_Fd RX2 9 2 0 := ⟨(RX2, TX2, 4), rfl, cf2, by decide, Or.inl (tg1 (List.mem_of_getElem? (i := 162) (by decide +kernel)) rfl)⟩
theorem fdX2_15 : rp_Fd RX2 15 2 1 := ⟨(RX2, TX2, 4), rfl, cf2, by decide, Or.inl (tg1 (List.mem_of_getElem? (i := 163) (by decide +kernel)) rfl)⟩
theorem fdX2_18 : rp_Fd RX2 18 2 2 := ⟨(RX2, TX2, 4), rfl, cf2, by decide, Or.inl (tg1 (List.mem_of_getElem? (i := 164) (by decide +kernel)) rfl)⟩
theorem fdX2_21 : rp_Fd RX2 21 2 3 := ⟨(RX2, TX2, 4), rfl, cf2, by decide, Or.inl (tg1 (List.mem_of_getElem? (i := 165) (by decide +kernel)) rfl)⟩
theorem fpX2_21 : rp_Fp RX2 21 2 3 .int := ⟨fdX2_21, (RX2, TX2, 4), rfl, rfl, by decide +kernel⟩
theorem fdX3_12 : rp_Fd RX3 12 3 0 := ⟨(RX3, TX3, 5), rfl, cf3, by decide, Or.inl (tg1 (List.mem_of_getElem? (i := 68) (by decide +kernel)) rfl)⟩
theorem fdX3_18 : rp_Fd RX3 18 3 1 := ⟨(RX3, TX3, 5), rfl, cf3, by decide, Or.inl (tg1 (List.mem_of_getElem? (i := 70) (by decide +kernel)) rfl)⟩
theorem fdX3_22 : rp_Fd RX3 22 3 2 := ⟨(RX3, TX3, 5), rfl, cf3, by decide, Or.inl (tg1 (List.mem_of_getElem? (i := 71) (by decide +kernel)) rfl)⟩
theorem fdX3_25 : rp_Fd RX3 25 3 3 := ⟨(RX3, TX3, 5), rfl, cf3, by decide, Or.inl (tg1 (List.mem_of_getElem? (i := 72) (by decide +kernel)) rfl)⟩
theorem fdX3_28 : rp_Fd RX3 28 3 4 := ⟨(RX3, TX3, 5), rfl, cf3, by decide, Or.inl (tg1 (List.mem_of_getElem? (i := 73) (by decide +kernel)) rfl)⟩
theorem fdX3_38 : rp_Fd RX3 38 1 2 := ⟨(RX1, TX1, 6), rfl, cf1, by decide, Or.inr ⟨"RocketPrint", (nw1 (List.mem_of_getElem? (i := 33) (by decide +kernel)) rfl)⟩⟩
theorem fdX3_78 : rp_Fd RX3 78 1 3 := ⟨(RX1, TX1, 6), rfl, cf1, by decide, Or.inr ⟨"RocketPrint", (nw1 (List.mem_of_getElem? (i := 39) (by decide +kernel)) rfl)⟩⟩
theorem fdX4_9 : rp_Fd RX4 9 4 0 := ⟨(RX4, TX4, 3), rfl, cf4, by decide, Or.inl (tg1 (List.mem_of_getElem? (i := 145) (by decide +kernel)) rfl)⟩
theorem fdX4_15 : rp_Fd RX4 15 4 1 := ⟨(RX4, TX4, 3), rfl, cf4, by decide, Or.inl (tg1 (List.mem_of_getElem? (i := 146) (by decide +kernel)) rfl)⟩
theorem fdX4_18 : rp_Fd RX4 18 4 2 := ⟨(RX4, TX4, 3), rfl, cf4, by decide, Or.inl (tg1 (List.mem_of_getElem? (i := 147) (by decide +kernel)) rfl)⟩
theorem fpX4_18 : rp_Fp RX4 18 4 2 .int := ⟨fdX4_18, (RX4, TX4, 3), rfl, rfl, by decide +kernel⟩
theorem fdX5_9 : rp_Fd RX5 9 5 0 := ⟨(RX5, TX5, 9), rfl, cf5, by decide, Or.inl (tg1 (List.mem_of_getElem? (i := 106) (by decide +kernel)) rfl)⟩
theorem fdX5_20 : rp_Fd RX5 20 5 2 := ⟨(RX5, TX5, 9), rfl, cf5, by decide, Or.inl (tg1 (List.mem_of_getElem? (i := 110) (by decide +kernel)) rfl)⟩
theorem fdX5_24 : rp_Fd RX5 24 5 5 := ⟨(RX5, TX5, 9), rfl, cf5, by decide, Or.inl (tg1 (List.mem_of_getElem? (i := 115) (by decide +kernel)) rfl)⟩
theorem fdX5_27 : rp_Fd RX5 27 5 7 := ⟨(RX5, TX5, 9), rfl, cf5, by decide, Or.inl (tg1 (List.mem_of_getElem? (i := 117) (by decide +kernel)) rfl)⟩
theorem fdX5_31 : rp_Fd RX5 31 5 8 := ⟨(RX5, TX5, 9), rfl, cf5, by decide, Or.inl (tg1 (List.mem_of_getElem? (i := 118) (by decide +kernel)) rfl)⟩
theorem fdX5_37 : rp_Fd RX5 37 5 3 := ⟨(RX5, TX5, 9), rfl, cf5, by decide, Or.inl (tg1 (List.mem_of_getElem? (i := 112) (by decide +kernel)) rfl)⟩
theorem fdX5_65 : rp_Fd RX5 65 1 2 := ⟨(RX1, TX1, 6), rfl, cf1, by decide, Or.inr ⟨"RocketPrint", (nw1 (List.mem_of_getElem? (i := 34) (by decide +kernel)) rfl)⟩⟩
theorem fdX5_86 : rp_Fd RX5 86 1 3 := ⟨(RX1, TX1, 6), rfl, cf1, by decide, Or.inr ⟨"RocketPrint", (nw1 (List.mem_of_getElem? (i := 37) (by decide +kernel)) rfl)⟩⟩
theorem fdX5_101 : rp_Fd RX5 101 5 6 := ⟨(RX5, TX5, 9), rfl, cf5, by decide, Or.inl (tg1 (List.mem_of_getElem? (i := 116) (by decide +kernel)) rfl)⟩
theorem fdX5_108 : rp_Fd RX5 108 5 1 := ⟨(RX5, TX5, 9), rfl, cf5, by decide, Or.inl (tg1 (List.mem_of_getElem? (i := 109) (by decide +kernel)) rfl)⟩
theorem fdX5_111 : rp_Fd RX5 111 5 4 := ⟨(RX5, TX5, 9), rfl, cf5, by decide, Or.inl (tg1 (List.mem_of_getElem? (i := 114) (by decide +kernel)) rfl)⟩
theorem slX5_68 : rp_Sl RX5 68 0 := Or.inr ⟨"RocketPrint", (nw2 (List.mem_of_getElem? (i := 74) (by decide +kernel)) rfl)⟩
theorem slX5_72 : rp_Sl RX5 72 1 := Or.inr ⟨"RocketPrint", (nw2 (List.mem_of_getElem? (i := 76) (by decide +kernel)) rfl)⟩
theorem slX5_89 : rp_Sl RX5 89 2 := Or.inr ⟨"RocketPrint", (nw2 (List.mem_of_getElem? (i := 104) (by decide +kernel)) rfl)⟩
theorem fpX5_20 : rp_Fp RX5 20 5 2 .int := ⟨fdX5_20, (RX5, TX5, 9), rfl, rfl, by decide +kernel⟩
theorem fpX5_24 : rp_Fp RX5 24 5 5 .int := ⟨fdX5_24, (RX5, TX5, 9), rfl, rfl, by decide +kernel⟩
theorem fpX5_27 : rp_Fp RX5 27 5 7 .boolean := ⟨fdX5_27, (RX5, TX5, 9), rfl, rfl, by decide +kernel⟩
theorem fpX5_31 : rp_Fp RX5 31 5 8 .boolean := ⟨fdX5_31, (RX5, TX5, 9), rfl, rfl, by decide +kernel⟩
theorem fpX5_37 : rp_Fp RX5 37 5 3 .int := ⟨fdX5_37, (RX5, TX5, 9), rfl, rfl, by decide +kernel⟩
theorem fdX5_95 : rp_Fd RX5 95 1 4 := ⟨(RX1, TX1, 6), rfl, cf1, by decide, Or.inr ⟨"RocketPrint", (nw1 (List.mem_of_getElem? (i := 41) (by decide +kernel)) rfl)⟩⟩
theorem fpX5_95 : rp_Fp RX5 95 1 4 .int := ⟨fdX5_95, (RX1, TX1, 6), rfl, rfl, by decide +kernel⟩
theorem fdX5_98 : rp_Fd RX5 98 1 5 := ⟨(RX1, TX1, 6), rfl, cf1, by decide, Or.inr ⟨"RocketPrint", (nw1 (List.mem_of_getElem? (i := 45) (by decide +kernel)) rfl)⟩⟩
theorem fpX5_98 : rp_Fp RX5 98 1 5 .int := ⟨fdX5_98, (RX1, TX1, 6), rfl, rfl, by decide +kernel⟩
theorem fpX5_101 : rp_Fp RX5 101 5 6 .int := ⟨fdX5_101, (RX5, TX5, 9), rfl, rfl, by decide +kernel⟩
theorem fpX5_111 : rp_Fp RX5 111 5 4 .int := ⟨fdX5_111, (RX5, TX5, 9), rfl, rfl, by decide +kernel⟩
theorem fdX7_7 : rp_Fd RX7 7 7 0 := ⟨(RX7, TX7, 27), rfl, cf7, by decide, Or.inl (tg4 (List.mem_of_getElem? (i := 91) (by decide +kernel)) rfl)⟩
theorem fdX7_13 : rp_Fd RX7 13 7 1 := ⟨(RX7, TX7, 27), rfl, cf7, by decide, Or.inl (tg4 (List.mem_of_getElem? (i := 92) (by decide +kernel)) rfl)⟩
theorem fdX7_16 : rp_Fd RX7 16 7 3 := ⟨(RX7, TX7, 27), rfl, cf7, by decide, Or.inl (tg4 (List.mem_of_getElem? (i := 94) (by decide +kernel)) rfl)⟩
theorem fdX7_19 : rp_Fd RX7 19 7 12 := ⟨(RX7, TX7, 27), rfl, cf7, by decide, Or.inl (tg4 (List.mem_of_getElem? (i := 103) (by decide +kernel)) rfl)⟩
theorem fdX7_22 : rp_Fd RX7 22 7 13 := ⟨(RX7, TX7, 27), rfl, cf7, by decide, Or.inl (tg4 (List.mem_of_getElem? (i := 104) (by decide +kernel)) rfl)⟩
theorem fdX7_25 : rp_Fd RX7 25 7 15 := ⟨(RX7, TX7, 27), rfl, cf7, by decide, Or.inl (tg4 (List.mem_of_getElem? (i := 106) (by decide +kernel)) rfl)⟩
theorem fdX7_28 : rp_Fd RX7 28 7 19 := ⟨(RX7, TX7, 27), rfl, cf7, by decide, Or.inl (tg4 (List.mem_of_getElem? (i := 110) (by decide +kernel)) rfl)⟩
theorem fdX7_31 : rp_Fd RX7 31 7 21 := ⟨(RX7, TX7, 27), rfl, cf7, by decide, Or.inl (tg4 (List.mem_of_getElem? (i := 112) (by decide +kernel)) rfl)⟩
theorem fdX7_34 : rp_Fd RX7 34 7 22 := ⟨(RX7, TX7, 27), rfl, cf7, by decide, Or.inl (tg4 (List.mem_of_getElem? (i := 113) (by decide +kernel)) rfl)⟩
theorem fdX7_38 : rp_Fd RX7 38 7 23 := ⟨(RX7, TX7, 27), rfl, cf7, by decide, Or.inl (tg4 (List.mem_of_getElem? (i := 114) (by decide +kernel)) rfl)⟩
theorem fdX7_41 : rp_Fd RX7 41 7 24 := ⟨(RX7, TX7, 27), rfl, cf7, by decide, Or.inl (tg4 (List.mem_of_getElem? (i := 115) (by decide +kernel)) rfl)⟩
theorem fdX7_44 : rp_Fd RX7 44 7 25 := ⟨(RX7, TX7, 27), rfl, cf7, by decide, Or.inl (tg4 (List.mem_of_getElem? (i := 116) (by decide +kernel)) rfl)⟩
theorem fdX7_53 : rp_Fd RX7 53 7 4 := ⟨(RX7, TX7, 27), rfl, cf7, by decide, Or.inl (tg4 (List.mem_of_getElem? (i := 95) (by decide +kernel)) rfl)⟩
theorem fdX7_57 : rp_Fd RX7 57 7 6 := ⟨(RX7, TX7, 27), rfl, cf7, by decide, Or.inl (tg4 (List.mem_of_getElem? (i := 97) (by decide +kernel)) rfl)⟩
theorem fdX7_60 : rp_Fd RX7 60 7 9 := ⟨(RX7, TX7, 27), rfl, cf7, by decide, Or.inl (tg4 (List.mem_of_getElem? (i := 100) (by decide +kernel)) rfl)⟩
theorem fdX7_63 : rp_Fd RX7 63 7 7 := ⟨(RX7, TX7, 27), rfl, cf7, by decide, Or.inl (tg4 (List.mem_of_getElem? (i := 98) (by decide +kernel)) rfl)⟩
theorem fdX7_66 : rp_Fd RX7 66 7 10 := ⟨(RX7, TX7, 27), rfl, cf7, by decide, Or.inl (tg4 (List.mem_of_getElem? (i := 101) (by decide +kernel)) rfl)⟩
theorem fdX7_69 : rp_Fd RX7 69 7 8 := ⟨(RX7, TX7, 27), rfl, cf7, by decide, Or.inl (tg4 (List.mem_of_getElem? (i := 99) (by decide +kernel)) rfl)⟩
theorem fdX7_76 : rp_Fd RX7 76 7 11 := ⟨(RX7, TX7, 27), rfl, cf7, by decide, Or.inl (tg4 (List.mem_of_getElem? (i := 102) (by decide +kernel)) rfl)⟩
theorem fdX7_104 : rp_Fd RX7 104 7 2 := ⟨(RX7, TX7, 27), rfl, cf7, by decide, Or.inl (tg4 (List.mem_of_getElem? (i := 93) (by decide +kernel)) rfl)⟩
theorem fdX7_113 : rp_Fd RX7 113 7 5 := ⟨(RX7, TX7, 27), rfl, cf7, by decide, Or.inl (tg4 (List.mem_of_getElem? (i := 96) (by decide +kernel)) rfl)⟩
theorem fdX7_116 : rp_Fd RX7 116 7 20 := ⟨(RX7, TX7, 27), rfl, cf7, by decide, Or.inl (tg4 (List.mem_of_getElem? (i := 111) (by decide +kernel)) rfl)⟩
theorem fdX7_132 : rp_Fd RX7 132 7 14 := ⟨(RX7, TX7, 27), rfl, cf7, by decide, Or.inl (tg4 (List.mem_of_getElem? (i := 105) (by decide +kernel)) rfl)⟩
theorem fdX7_149 : rp_Fd RX7 149 7 16 := ⟨(RX7, TX7, 27), rfl, cf7, by decide, Or.inl (tg4 (List.mem_of_getElem? (i := 107) (by decide +kernel)) rfl)⟩
theorem fdX7_152 : rp_Fd RX7 152 7 17 := ⟨(RX7, TX7, 27), rfl, cf7, by decide, Or.inl (tg4 (List.mem_of_getElem? (i := 108) (by decide +kernel)) rfl)⟩
theorem fdX7_155 : rp_Fd RX7 155 7 18 := ⟨(RX7, TX7, 27), rfl, cf7, by decide, Or.inl (tg4 (List.mem_of_getElem? (i := 109) (by decide +kernel)) rfl)⟩
theorem fdX7_239 : rp_Fd RX7 239 7 26 := ⟨(RX7, TX7, 27), rfl, cf7, by decide, Or.inl (tg4 (List.mem_of_getElem? (i := 117) (by decide +kernel)) rfl)⟩
theorem ciX7_236 : Cond.constant RX7 236 (rI 1103515245) ∈ rp_TG := (tg5 (List.mem_of_getElem? (i := 225) (by decide +kernel)) rfl)
theorem clX7_47 : Cond.constantLong RX7 47 (rJ 127) ∈ rp_TG := (tg4 (List.mem_of_getElem? (i := 178) (by decide +kernel)) rfl)
theorem clX7_79 : Cond.constantLong RX7 79 (rJ 97) ∈ rp_TG := (tg4 (List.mem_of_getElem? (i := 198) (by decide +kernel)) rfl)
theorem clX7_81 : Cond.constantLong RX7 81 (rJ 122) ∈ rp_TG := (tg4 (List.mem_of_getElem? (i := 199) (by decide +kernel)) rfl)
theorem clX7_83 : Cond.constantLong RX7 83 (rJ 48) ∈ rp_TG := (tg4 (List.mem_of_getElem? (i := 200) (by decide +kernel)) rfl)
theorem clX7_85 : Cond.constantLong RX7 85 (rJ 57) ∈ rp_TG := (tg4 (List.mem_of_getElem? (i := 201) (by decide +kernel)) rfl)
theorem clX7_102 : Cond.constantLong RX7 102 (rJ 6) ∈ rp_TG := (tg4 (List.mem_of_getElem? (i := 214) (by decide +kernel)) rfl)
theorem clX7_119 : Cond.constantLong RX7 119 (rJ 11) ∈ rp_TG := (tg5 (List.mem_of_getElem? (i := 84) (by decide +kernel)) rfl)
theorem clX7_121 : Cond.constantLong RX7 121 (rJ 79) ∈ rp_TG := (tg5 (List.mem_of_getElem? (i := 69) (by decide +kernel)) rfl)
theorem clX7_181 : Cond.constantLong RX7 181 (rJ 3) ∈ rp_TG := (tg5 (List.mem_of_getElem? (i := 53) (by decide +kernel)) rfl)
theorem clX7_192 : Cond.constantLong RX7 192 (rJ 59) ∈ rp_TG := (tg5 (List.mem_of_getElem? (i := 85) (by decide +kernel)) rfl)
theorem clX7_194 : Cond.constantLong RX7 194 (rJ 9) ∈ rp_TG := (tg5 (List.mem_of_getElem? (i := 86) (by decide +kernel)) rfl)
theorem clX7_203 : Cond.constantLong RX7 203 (rJ 8) ∈ rp_TG := (tg5 (List.mem_of_getElem? (i := 99) (by decide +kernel)) rfl)
theorem clX7_216 : Cond.constantLong RX7 216 (rJ 10) ∈ rp_TG := (tg5 (List.mem_of_getElem? (i := 175) (by decide +kernel)) rfl)
theorem clX7_226 : Cond.constantLong RX7 226 (rJ (-1)) ∈ rp_TG := (tg5 (List.mem_of_getElem? (i := 183) (by decide +kernel)) rfl)
theorem clX7_234 : Cond.constantLong RX7 234 (rJ 60) ∈ rp_TG := (tg5 (List.mem_of_getElem? (i := 224) (by decide +kernel)) rfl)
theorem clX7_237 : Cond.constantLong RX7 237 (rJ 2) ∈ rp_TG := (tg5 (List.mem_of_getElem? (i := 238) (by decide +kernel)) rfl)
theorem fpX7_53 : rp_Fp RX7 53 7 4 .int := ⟨fdX7_53, (RX7, TX7, 27), rfl, rfl, by decide +kernel⟩
theorem fpX7_57 : rp_Fp RX7 57 7 6 .int := ⟨fdX7_57, (RX7, TX7, 27), rfl, rfl, by decide +kernel⟩
theorem fpX7_60 : rp_Fp RX7 60 7 9 .int := ⟨fdX7_60, (RX7, TX7, 27), rfl, rfl, by decide +kernel⟩
theorem fpX7_63 : rp_Fp RX7 63 7 7 .int := ⟨fdX7_63, (RX7, TX7, 27), rfl, rfl, by decide +kernel⟩
theorem fpX7_66 : rp_Fp RX7 66 7 10 .int := ⟨fdX7_66, (RX7, TX7, 27), rfl, rfl, by decide +kernel⟩
theorem fpX7_69 : rp_Fp RX7 69 7 8 .int := ⟨fdX7_69, (RX7, TX7, 27), rfl, rfl, by decide +kernel⟩
theorem fpX7_76 : rp_Fp RX7 76 7 11 .int := ⟨fdX7_76, (RX7, TX7, 27), rfl, rfl, by decide +kernel⟩
theorem fpX7_104 : rp_Fp RX7 104 7 2 .int := ⟨fdX7_104, (RX7, TX7, 27), rfl, rfl, by decide +kernel⟩
theorem fpX7_113 : rp_Fp RX7 113 7 5 .int := ⟨fdX7_113, (RX7, TX7, 27), rfl, rfl, by decide +kernel⟩
theorem fpX7_116 : rp_Fp RX7 116 7 20 .int := ⟨fdX7_116, (RX7, TX7, 27), rfl, rfl, by decide +kernel⟩
theorem fpX7_132 : rp_Fp RX7 132 7 14 .int := ⟨fdX7_132, (RX7, TX7, 27), rfl, rfl, by decide +kernel⟩
theorem fpX7_149 : rp_Fp RX7 149 7 16 .int := ⟨fdX7_149, (RX7, TX7, 27), rfl, rfl, by decide +kernel⟩
theorem fpX7_152 : rp_Fp RX7 152 7 17 .int := ⟨fdX7_152, (RX7, TX7, 27), rfl, rfl, by decide +kernel⟩
theorem fpX7_155 : rp_Fp RX7 155 7 18 .int := ⟨fdX7_155, (RX7, TX7, 27), rfl, rfl, by decide +kernel⟩
theorem fpX7_239 : rp_Fp RX7 239 7 26 .int := ⟨fdX7_239, (RX7, TX7, 27), rfl, rfl, by decide +kernel⟩
theorem ciJ6_265 : Cond.constant RJ6 265 (rI 1431655765) ∈ rp_TG := (tg3 (List.mem_of_getElem? (i := 134) (by decide +kernel)) rfl)
theorem ciJ6_266 : Cond.constant RJ6 266 (rI 858993459) ∈ rp_TG := (tg3 (List.mem_of_getElem? (i := 135) (by decide +kernel)) rfl)
theorem ciJ6_267 : Cond.constant RJ6 267 (rI 252645135) ∈ rp_TG := (tg3 (List.mem_of_getElem? (i := 136) (by decide +kernel)) rfl)
theorem fsJ0_9 : Cond.fieldLink RJ0 9 "java/lang/String" "value" "[B" ∈ rp_TG := (tg6 (List.mem_of_getElem? (i := 15) (by decide +kernel)) rfl)
theorem fsJ0_15 : Cond.fieldLink RJ0 15 "java/lang/String" "coder" "B" ∈ rp_TG := (tg6 (List.mem_of_getElem? (i := 16) (by decide +kernel)) rfl)
theorem fsJ0_38 : Cond.fieldLink RJ0 38 "java/lang/String" "COMPACT_STRINGS" "Z" ∈ rp_TG := (tg2 (List.mem_of_getElem? (i := 24) (by decide +kernel)) rfl)
theorem fsJ0_1053 : Cond.fieldLink RJ0 1053 "jdk/internal/util/Preconditions" "SIOOBE_FORMATTER" "Ljava/util/function/BiFunction;" ∈ rp_TG := (tg2 (List.mem_of_getElem? (i := 40) (by decide +kernel)) rfl)
abbrev mX6_within : rp_MI := (yX6_within, cX6_within, 3, (some .boolean))
theorem cbX6_within : rp_Cb mX6_within 3 := ⟨(tg1 (List.mem_of_getElem? (i := 1) (by decide +kernel)) rfl), (tg1 (List.mem_of_getElem? (i := 212) rfl) rfl), ⟨by decide, by decide, by decide +kernel⟩, by decide +kernel⟩
theorem stX6_within : rp_St mX6_within := (tg1 (List.mem_of_getElem? (i := 211) (by decide +kernel)) rfl)
abbrev mX6_feed : rp_MI := (yX6_feed, cX6_feed, 2, (some .int))
theorem cbX6_feed : rp_Cb mX6_feed 1 := ⟨(tg1 (List.mem_of_getElem? (i := 1) (by decide +kernel)) rfl), (tg1 (List.mem_of_getElem? (i := 209) rfl) rfl), ⟨by decide, by decide, by decide +kernel⟩, by decide +kernel⟩
theorem viX6_feed : rp_Vi mX6_feed := ⟨(tg1 (List.mem_of_getElem? (i := 207) (by decide +kernel)) rfl), (tg1 (List.mem_of_getElem? (i := 208) (by decide +kernel)) rfl)⟩
abbrev mX7_in : rp_MI := (yX7_in, cX7_in, 6, (some .boolean))
theorem cbX7_in : rp_Cb mX7_in 3 := ⟨(tg1 (List.mem_of_getElem? (i := 8) (by decide +kernel)) rfl), (tg4 (List.mem_of_getElem? (i := 181) rfl) rfl), ⟨by decide, by decide, by decide +kernel⟩, by decide +kernel⟩
theorem stX7_in : rp_St mX7_in := (tg4 (List.mem_of_getElem? (i := 180) (by decide +kernel)) rfl)
abbrev mX7_feed : rp_MI := (yX7_feed, cX7_feed, 2, (some .int))
theorem cbX7_feed : rp_Cb mX7_feed 1 := ⟨(tg1 (List.mem_of_getElem? (i := 8) (by decide +kernel)) rfl), (tg4 (List.mem_of_getElem? (i := 177) rfl) rfl), ⟨by decide, by decide, by decide +kernel⟩, by decide +kernel⟩
theorem viX7_feed : rp_Vi mX7_feed := ⟨(tg4 (List.mem_of_getElem? (i := 175) (by decide +kernel)) rfl), (tg4 (List.mem_of_getElem? (i := 176) (by decide +kernel)) rfl)⟩
abbrev mX6_end : rp_MI := (yX6_end, cX6_end, 3, (some .int))
theorem cbX6_end : rp_Cb mX6_end 1 := ⟨(tg1 (List.mem_of_getElem? (i := 1) (by decide +kernel)) rfl), (tg1 (List.mem_of_getElem? (i := 216) rfl) rfl), ⟨by decide, by decide, by decide +kernel⟩, by decide +kernel⟩
theorem viX6_end : rp_Vi mX6_end := ⟨(tg1 (List.mem_of_getElem? (i := 214) (by decide +kernel)) rfl), (tg1 (List.mem_of_getElem? (i := 215) (by decide +kernel)) rfl)⟩
abbrev mX7_end : rp_MI := (yX7_end, cX7_end, 3, (some .int))
theorem cbX7_end : rp_Cb mX7_end 1 := ⟨(tg1 (List.mem_of_getElem? (i := 8) (by decide +kernel)) rfl), (tg4 (List.mem_of_getElem? (i := 185) rfl) rfl), ⟨by decide, by decide, by decide +kernel⟩, by decide +kernel⟩
theorem viX7_end : rp_Vi mX7_end := ⟨(tg4 (List.mem_of_getElem? (i := 183) (by decide +kernel)) rfl), (tg4 (List.mem_of_getElem? (i := 184) (by decide +kernel)) rfl)⟩
abbrev mX1_clear : rp_MI := (yX1_clear, cX1_clear, 1, none)
theorem cbX1_clear : rp_Cb mX1_clear 0 := ⟨(tg1 (List.mem_of_getElem? (i := 2) (by decide +kernel)) rfl), (tg1 (List.mem_of_getElem? (i := 228) rfl) rfl), ⟨by decide, by decide, by decide +kernel⟩, by decide +kernel⟩
theorem viX1_clear : rp_Vi mX1_clear := ⟨(tg1 (List.mem_of_getElem? (i := 227) (by decide +kernel)) rfl), (tgs (List.mem_of_getElem? (i := 1) (by decide +kernel)) rfl)⟩
abbrev mX5_isLetter : rp_MI := (yX5_isLetter, cX5_isLetter, 1, (some .boolean))
theorem cbX5_isLetter : rp_Cb mX5_isLetter 1 := ⟨(tg1 (List.mem_of_getElem? (i := 5) (by decide +kernel)) rfl), (tg1 (List.mem_of_getElem? (i := 235) rfl) rfl), ⟨by decide, by decide, by decide +kernel⟩, by decide +kernel⟩
theorem stX5_isLetter : rp_St mX5_isLetter := (tg1 (List.mem_of_getElem? (i := 234) (by decide +kernel)) rfl)
abbrev mX5_isFigure : rp_MI := (yX5_isFigure, cX5_isFigure, 1, (some .boolean))
theorem cbX5_isFigure : rp_Cb mX5_isFigure 1 := ⟨(tg1 (List.mem_of_getElem? (i := 5) (by decide +kernel)) rfl), (tg1 (List.mem_of_getElem? (i := 238) rfl) rfl), ⟨by decide, by decide, by decide +kernel⟩, by decide +kernel⟩
theorem stX5_isFigure : rp_St mX5_isFigure := (tg1 (List.mem_of_getElem? (i := 237) (by decide +kernel)) rfl)
abbrev mX5_blame : rp_MI := (yX5_blame, cX5_blame, 2, none)
theorem cbX5_blame : rp_Cb mX5_blame 1 := ⟨(tg1 (List.mem_of_getElem? (i := 5) (by decide +kernel)) rfl), (tg2 (List.mem_of_getElem? (i := 2) rfl) rfl), ⟨by decide, by decide, by decide +kernel⟩, by decide +kernel⟩
theorem viX5_blame : rp_Vi mX5_blame := ⟨(tg2 (List.mem_of_getElem? (i := 1) (by decide +kernel)) rfl), (tgs (List.mem_of_getElem? (i := 3) (by decide +kernel)) rfl)⟩
abbrev mX5_takeToken : rp_MI := (yX5_takeToken, cX5_takeToken, 1, none)
theorem cbX5_takeToken : rp_Cb mX5_takeToken 0 := ⟨(tg1 (List.mem_of_getElem? (i := 5) (by decide +kernel)) rfl), (tg1 (List.mem_of_getElem? (i := 232) rfl) rfl), ⟨by decide, by decide, by decide +kernel⟩, by decide +kernel⟩
theorem viX5_takeToken : rp_Vi mX5_takeToken := ⟨(tg1 (List.mem_of_getElem? (i := 231) (by decide +kernel)) rfl), (tgs (List.mem_of_getElem? (i := 2) (by decide +kernel)) rfl)⟩
abbrev mJ0_coder_7d493 : rp_MI := (yJ0_coder_7d493, cJ0_coder_7d493, 1, (some .byte))
theorem cbJ0_coder_7d493 : rp_Cb mJ0_coder_7d493 0 := ⟨(tg1 (List.mem_of_getElem? (i := 9) (by decide +kernel)) rfl), (tg2 (List.mem_of_getElem? (i := 23) rfl) rfl), ⟨by decide, by decide, by decide +kernel⟩, by decide +kernel⟩
theorem viJ0_coder_7d493 : rp_Vi mJ0_coder_7d493 := ⟨(tg2 (List.mem_of_getElem? (i := 21) (by decide +kernel)) rfl), (tg2 (List.mem_of_getElem? (i := 22) (by decide +kernel)) rfl)⟩
abbrev mJ0_length_8abf5 : rp_MI := (yJ0_length_8abf5, cJ0_length_8abf5, 1, (some .int))
theorem cbJ0_length_8abf5 : rp_Cb mJ0_length_8abf5 0 := ⟨(tg1 (List.mem_of_getElem? (i := 9) (by decide +kernel)) rfl), (tg2 (List.mem_of_getElem? (i := 19) rfl) rfl), ⟨by decide, by decide, by decide +kernel⟩, by decide +kernel⟩
theorem viJ0_length_8abf5 : rp_Vi mJ0_length_8abf5 := ⟨(tg2 (List.mem_of_getElem? (i := 17) (by decide +kernel)) rfl), (tg2 (List.mem_of_getElem? (i := 18) (by decide +kernel)) rfl)⟩
abbrev mJ0_isLatin1_aae02 : rp_MI := (yJ0_isLatin1_aae02, cJ0_isLatin1_aae02, 1, (some .boolean))
theorem cbJ0_isLatin1_aae02 : rp_Cb mJ0_isLatin1_aae02 0 := ⟨(tg1 (List.mem_of_getElem? (i := 9) (by decide +kernel)) rfl), (tg2 (List.mem_of_getElem? (i := 33) rfl) rfl), ⟨by decide, by decide, by decide +kernel⟩, by decide +kernel⟩
theorem viJ0_isLatin1_aae02 : rp_Vi mJ0_isLatin1_aae02 := ⟨(tg2 (List.mem_of_getElem? (i := 31) (by decide +kernel)) rfl), (tg2 (List.mem_of_getElem? (i := 32) (by decide +kernel)) rfl)⟩
abbrev mJ3_checkIndex_8e157 : rp_MI := (yJ3_checkIndex_8e157, cJ3_checkIndex_8e157, 3, (some .int))
theorem cbJ3_checkIndex_8e157 : rp_Cb mJ3_checkIndex_8e157 3 := ⟨(tg1 (List.mem_of_getElem? (i := 11) (by decide +kernel)) rfl), (tg2 (List.mem_of_getElem? (i := 44) rfl) rfl), ⟨by decide, by decide, by decide +kernel⟩, by decide +kernel⟩
theorem stJ3_checkIndex_8e157 : rp_St mJ3_checkIndex_8e157 := (tg2 (List.mem_of_getElem? (i := 43) (by decide +kernel)) rfl)
abbrev mJ0_checkIndex_df160 : rp_MI := (yJ0_checkIndex_df160, cJ0_checkIndex_df160, 2, none)
theorem cbJ0_checkIndex_df160 : rp_Cb mJ0_checkIndex_df160 2 := ⟨(tg1 (List.mem_of_getElem? (i := 9) (by decide +kernel)) rfl), (tg2 (List.mem_of_getElem? (i := 39) rfl) rfl), ⟨by decide, by decide, by decide +kernel⟩, by decide +kernel⟩
theorem stJ0_checkIndex_df160 : rp_St mJ0_checkIndex_df160 := (tg2 (List.mem_of_getElem? (i := 38) (by decide +kernel)) rfl)
abbrev mJ1_charAt_3b067 : rp_MI := (yJ1_charAt_3b067, cJ1_charAt_3b067, 2, (some .char))
theorem cbJ1_charAt_3b067 : rp_Cb mJ1_charAt_3b067 2 := ⟨(tg1 (List.mem_of_getElem? (i := 10) (by decide +kernel)) rfl), (tg2 (List.mem_of_getElem? (i := 36) rfl) rfl), ⟨by decide, by decide, by decide +kernel⟩, by decide +kernel⟩
theorem stJ1_charAt_3b067 : rp_St mJ1_charAt_3b067 := (tg2 (List.mem_of_getElem? (i := 35) (by decide +kernel)) rfl)
abbrev mJ0_charAt_5068e : rp_MI := (yJ0_charAt_5068e, cJ0_charAt_5068e, 2, (some .char))
theorem cbJ0_charAt_5068e : rp_Cb mJ0_charAt_5068e 1 := ⟨(tg1 (List.mem_of_getElem? (i := 9) (by decide +kernel)) rfl), (tg2 (List.mem_of_getElem? (i := 29) rfl) rfl), ⟨by decide, by decide, by decide +kernel⟩, by decide +kernel⟩
theorem viJ0_charAt_5068e : rp_Vi mJ0_charAt_5068e := ⟨(tg2 (List.mem_of_getElem? (i := 27) (by decide +kernel)) rfl), (tg2 (List.mem_of_getElem? (i := 28) (by decide +kernel)) rfl)⟩
abbrev mX5_isWord : rp_MI := (yX5_isWord, cX5_isWord, 3, (some .boolean))
theorem cbX5_isWord : rp_Cb mX5_isWord 1 := ⟨(tg1 (List.mem_of_getElem? (i := 5) (by decide +kernel)) rfl), (tg2 (List.mem_of_getElem? (i := 15) rfl) rfl), ⟨by decide, by decide, by decide +kernel⟩, by decide +kernel⟩
theorem viX5_isWord : rp_Vi mX5_isWord := ⟨(tg2 (List.mem_of_getElem? (i := 14) (by decide +kernel)) rfl), (tgs (List.mem_of_getElem? (i := 6) (by decide +kernel)) rfl)⟩
abbrev mX5_wordRead : rp_MI := (yX5_wordRead, cX5_wordRead, 1, (some .int))
theorem cbX5_wordRead : rp_Cb mX5_wordRead 0 := ⟨(tg1 (List.mem_of_getElem? (i := 5) (by decide +kernel)) rfl), (tg2 (List.mem_of_getElem? (i := 10) rfl) rfl), ⟨by decide, by decide, by decide +kernel⟩, by decide +kernel⟩
theorem viX5_wordRead : rp_Vi mX5_wordRead := ⟨(tg2 (List.mem_of_getElem? (i := 9) (by decide +kernel)) rfl), (tgs (List.mem_of_getElem? (i := 5) (by decide +kernel)) rfl)⟩
abbrev mX5_takeNumber : rp_MI := (yX5_takeNumber, cX5_takeNumber, 3, (some .int))
theorem cbX5_takeNumber : rp_Cb mX5_takeNumber 2 := ⟨(tg1 (List.mem_of_getElem? (i := 5) (by decide +kernel)) rfl), (tg2 (List.mem_of_getElem? (i := 81) rfl) rfl), ⟨by decide, by decide, by decide +kernel⟩, by decide +kernel⟩
theorem viX5_takeNumber : rp_Vi mX5_takeNumber := ⟨(tg2 (List.mem_of_getElem? (i := 80) (by decide +kernel)) rfl), (tgs (List.mem_of_getElem? (i := 8) (by decide +kernel)) rfl)⟩
abbrev mX5_takeSign : rp_MI := (yX5_takeSign, cX5_takeSign, 1, none)
theorem cbX5_takeSign : rp_Cb mX5_takeSign 0 := ⟨(tg1 (List.mem_of_getElem? (i := 5) (by decide +kernel)) rfl), (tg2 (List.mem_of_getElem? (i := 86) rfl) rfl), ⟨by decide, by decide, by decide +kernel⟩, by decide +kernel⟩
theorem viX5_takeSign : rp_Vi mX5_takeSign := ⟨(tg2 (List.mem_of_getElem? (i := 85) (by decide +kernel)) rfl), (tgs (List.mem_of_getElem? (i := 9) (by decide +kernel)) rfl)⟩
abbrev mX6_fitsWork : rp_MI := (yX6_fitsWork, cX6_fitsWork, 2, (some .boolean))
theorem cbX6_fitsWork : rp_Cb mX6_fitsWork 2 := ⟨(tg1 (List.mem_of_getElem? (i := 1) (by decide +kernel)) rfl), (tg2 (List.mem_of_getElem? (i := 93) rfl) rfl), ⟨by decide, by decide, by decide +kernel⟩, by decide +kernel⟩
theorem stX6_fitsWork : rp_St mX6_fitsWork := (tg2 (List.mem_of_getElem? (i := 92) (by decide +kernel)) rfl)
abbrev mX1_setWork : rp_MI := (yX1_setWork, cX1_setWork, 4, none)
theorem cbX1_setWork : rp_Cb mX1_setWork 3 := ⟨(tg1 (List.mem_of_getElem? (i := 2) (by decide +kernel)) rfl), (tg2 (List.mem_of_getElem? (i := 99) rfl) rfl), ⟨by decide, by decide, by decide +kernel⟩, by decide +kernel⟩
theorem viX1_setWork : rp_Vi mX1_setWork := ⟨(tg2 (List.mem_of_getElem? (i := 98) (by decide +kernel)) rfl), (tgs (List.mem_of_getElem? (i := 11) (by decide +kernel)) rfl)⟩
abbrev mX1_addWork : rp_MI := (yX1_addWork, cX1_addWork, 5, (some .int))
theorem cbX1_addWork : rp_Cb mX1_addWork 4 := ⟨(tg1 (List.mem_of_getElem? (i := 2) (by decide +kernel)) rfl), (tg2 (List.mem_of_getElem? (i := 90) rfl) rfl), ⟨by decide, by decide, by decide +kernel⟩, by decide +kernel⟩
theorem viX1_addWork : rp_Vi mX1_addWork := ⟨(tg2 (List.mem_of_getElem? (i := 89) (by decide +kernel)) rfl), (tgs (List.mem_of_getElem? (i := 10) (by decide +kernel)) rfl)⟩
abbrev mX5_takeWork : rp_MI := (yX5_takeWork, cX5_takeWork, 6, none)
theorem cbX5_takeWork : rp_Cb mX5_takeWork 2 := ⟨(tg1 (List.mem_of_getElem? (i := 5) (by decide +kernel)) rfl), (tg2 (List.mem_of_getElem? (i := 73) rfl) rfl), ⟨by decide, by decide, by decide +kernel⟩, by decide +kernel⟩
theorem viX5_takeWork : rp_Vi mX5_takeWork := ⟨(tg2 (List.mem_of_getElem? (i := 72) (by decide +kernel)) rfl), (tgs (List.mem_of_getElem? (i := 7) (by decide +kernel)) rfl)⟩
abbrev mX6_fitsReader : rp_MI := (yX6_fitsReader, cX6_fitsReader, 2, (some .boolean))
theorem cbX6_fitsReader : rp_Cb mX6_fitsReader 2 := ⟨(tg1 (List.mem_of_getElem? (i := 1) (by decide +kernel)) rfl), (tg2 (List.mem_of_getElem? (i := 112) rfl) rfl), ⟨by decide, by decide, by decide +kernel⟩, by decide +kernel⟩
theorem stX6_fitsReader : rp_St mX6_fitsReader := (tg2 (List.mem_of_getElem? (i := 111) (by decide +kernel)) rfl)
abbrev mX1_setReader : rp_MI := (yX1_setReader, cX1_setReader, 4, none)
theorem cbX1_setReader : rp_Cb mX1_setReader 3 := ⟨(tg1 (List.mem_of_getElem? (i := 2) (by decide +kernel)) rfl), (tg2 (List.mem_of_getElem? (i := 117) rfl) rfl), ⟨by decide, by decide, by decide +kernel⟩, by decide +kernel⟩
theorem viX1_setReader : rp_Vi mX1_setReader := ⟨(tg2 (List.mem_of_getElem? (i := 116) (by decide +kernel)) rfl), (tgs (List.mem_of_getElem? (i := 14) (by decide +kernel)) rfl)⟩
abbrev mX1_addReader : rp_MI := (yX1_addReader, cX1_addReader, 3, (some .int))
theorem cbX1_addReader : rp_Cb mX1_addReader 2 := ⟨(tg1 (List.mem_of_getElem? (i := 2) (by decide +kernel)) rfl), (tg2 (List.mem_of_getElem? (i := 109) rfl) rfl), ⟨by decide, by decide, by decide +kernel⟩, by decide +kernel⟩
theorem viX1_addReader : rp_Vi mX1_addReader := ⟨(tg2 (List.mem_of_getElem? (i := 108) (by decide +kernel)) rfl), (tgs (List.mem_of_getElem? (i := 13) (by decide +kernel)) rfl)⟩
abbrev mX5_takeReader : rp_MI := (yX5_takeReader, cX5_takeReader, 4, none)
theorem cbX5_takeReader : rp_Cb mX5_takeReader 1 := ⟨(tg1 (List.mem_of_getElem? (i := 5) (by decide +kernel)) rfl), (tg2 (List.mem_of_getElem? (i := 103) rfl) rfl), ⟨by decide, by decide, by decide +kernel⟩, by decide +kernel⟩
theorem viX5_takeReader : rp_Vi mX5_takeReader := ⟨(tg2 (List.mem_of_getElem? (i := 102) (by decide +kernel)) rfl), (tgs (List.mem_of_getElem? (i := 12) (by decide +kernel)) rfl)⟩
abbrev mX5_takeWind : rp_MI := (yX5_takeWind, cX5_takeWind, 2, none)
theorem cbX5_takeWind : rp_Cb mX5_takeWind 1 := ⟨(tg1 (List.mem_of_getElem? (i := 5) (by decide +kernel)) rfl), (tg2 (List.mem_of_getElem? (i := 121) rfl) rfl), ⟨by decide, by decide, by decide +kernel⟩, by decide +kernel⟩
theorem viX5_takeWind : rp_Vi mX5_takeWind := ⟨(tg2 (List.mem_of_getElem? (i := 120) (by decide +kernel)) rfl), (tgs (List.mem_of_getElem? (i := 15) (by decide +kernel)) rfl)⟩
abbrev mX5_takeDamp : rp_MI := (yX5_takeDamp, cX5_takeDamp, 2, none)
theorem cbX5_takeDamp : rp_Cb mX5_takeDamp 1 := ⟨(tg1 (List.mem_of_getElem? (i := 5) (by decide +kernel)) rfl), (tg2 (List.mem_of_getElem? (i := 125) rfl) rfl), ⟨by decide, by decide, by decide +kernel⟩, by decide +kernel⟩
theorem viX5_takeDamp : rp_Vi mX5_takeDamp := ⟨(tg2 (List.mem_of_getElem? (i := 124) (by decide +kernel)) rfl), (tgs (List.mem_of_getElem? (i := 16) (by decide +kernel)) rfl)⟩
abbrev mX5_takeLine : rp_MI := (yX5_takeLine, cX5_takeLine, 3, none)
theorem cbX5_takeLine : rp_Cb mX5_takeLine 1 := ⟨(tg1 (List.mem_of_getElem? (i := 5) (by decide +kernel)) rfl), (tg2 (List.mem_of_getElem? (i := 6) rfl) rfl), ⟨by decide, by decide, by decide +kernel⟩, by decide +kernel⟩
theorem viX5_takeLine : rp_Vi mX5_takeLine := ⟨(tg2 (List.mem_of_getElem? (i := 5) (by decide +kernel)) rfl), (tgs (List.mem_of_getElem? (i := 4) (by decide +kernel)) rfl)⟩
abbrev mX5_tellTo : rp_MI := (yX5_tellTo, cX5_tellTo, 3, (some .int))
theorem cbX5_tellTo : rp_Cb mX5_tellTo 1 := ⟨(tg1 (List.mem_of_getElem? (i := 5) (by decide +kernel)) rfl), (tg1 (List.mem_of_getElem? (i := 224) rfl) rfl), ⟨by decide, by decide, by decide +kernel⟩, by decide +kernel⟩
theorem viX5_tellTo : rp_Vi mX5_tellTo := ⟨(tg1 (List.mem_of_getElem? (i := 223) (by decide +kernel)) rfl), (tgs (List.mem_of_getElem? (i := 0) (by decide +kernel)) rfl)⟩
abbrev mX1_become : rp_MI := (yX1_become, cX1_become, 2, none)
theorem cbX1_become : rp_Cb mX1_become 1 := ⟨(tg1 (List.mem_of_getElem? (i := 2) (by decide +kernel)) rfl), (tg2 (List.mem_of_getElem? (i := 129) rfl) rfl), ⟨by decide, by decide, by decide +kernel⟩, by decide +kernel⟩
theorem viX1_become : rp_Vi mX1_become := ⟨(tg2 (List.mem_of_getElem? (i := 128) (by decide +kernel)) rfl), (tgs (List.mem_of_getElem? (i := 17) (by decide +kernel)) rfl)⟩
abbrev mX6_text : rp_MI := (yX6_text, cX6_text, 3, (some .int))
theorem cbX6_text : rp_Cb mX6_text 0 := ⟨(tg1 (List.mem_of_getElem? (i := 1) (by decide +kernel)) rfl), (tg1 (List.mem_of_getElem? (i := 220) rfl) rfl), ⟨by decide, by decide, by decide +kernel⟩, by decide +kernel⟩
theorem viX6_text : rp_Vi mX6_text := ⟨(tg1 (List.mem_of_getElem? (i := 218) (by decide +kernel)) rfl), (tg1 (List.mem_of_getElem? (i := 219) (by decide +kernel)) rfl)⟩
abbrev mX7_byteAt : rp_MI := (yX7_byteAt, cX7_byteAt, 2, (some .int))
theorem cbX7_byteAt : rp_Cb mX7_byteAt 1 := ⟨(tg1 (List.mem_of_getElem? (i := 8) (by decide +kernel)) rfl), (tg4 (List.mem_of_getElem? (i := 197) rfl) rfl), ⟨by decide, by decide, by decide +kernel⟩, by decide +kernel⟩
theorem viX7_byteAt : rp_Vi mX7_byteAt := ⟨(tg4 (List.mem_of_getElem? (i := 196) (by decide +kernel)) rfl), (tgs (List.mem_of_getElem? (i := 70) (by decide +kernel)) rfl)⟩
abbrev mX7_fails : rp_MI := (yX7_fails, cX7_fails, 2, none)
theorem cbX7_fails : rp_Cb mX7_fails 1 := ⟨(tg1 (List.mem_of_getElem? (i := 8) (by decide +kernel)) rfl), (tg4 (List.mem_of_getElem? (i := 205) rfl) rfl), ⟨by decide, by decide, by decide +kernel⟩, by decide +kernel⟩
theorem viX7_fails : rp_Vi mX7_fails := ⟨(tg4 (List.mem_of_getElem? (i := 204) (by decide +kernel)) rfl), (tgs (List.mem_of_getElem? (i := 71) (by decide +kernel)) rfl)⟩
abbrev mX7_step : rp_MI := (yX7_step, cX7_step, 2, none)
theorem cbX7_step : rp_Cb mX7_step 0 := ⟨(tg1 (List.mem_of_getElem? (i := 8) (by decide +kernel)) rfl), (tg4 (List.mem_of_getElem? (i := 193) rfl) rfl), ⟨by decide, by decide, by decide +kernel⟩, by decide +kernel⟩
theorem viX7_step : rp_Vi mX7_step := ⟨(tg4 (List.mem_of_getElem? (i := 192) (by decide +kernel)) rfl), (tgs (List.mem_of_getElem? (i := 69) (by decide +kernel)) rfl)⟩
abbrev mX7_nameHere : rp_MI := (yX7_nameHere, cX7_nameHere, 4, (some .int))
theorem cbX7_nameHere : rp_Cb mX7_nameHere 0 := ⟨(tg1 (List.mem_of_getElem? (i := 8) (by decide +kernel)) rfl), (tg4 (List.mem_of_getElem? (i := 213) rfl) rfl), ⟨by decide, by decide, by decide +kernel⟩, by decide +kernel⟩
theorem viX7_nameHere : rp_Vi mX7_nameHere := ⟨(tg4 (List.mem_of_getElem? (i := 212) (by decide +kernel)) rfl), (tgs (List.mem_of_getElem? (i := 73) (by decide +kernel)) rfl)⟩
abbrev mX7_number : rp_MI := (yX7_number, cX7_number, 4, (some .int))
theorem cbX7_number : rp_Cb mX7_number 2 := ⟨(tg1 (List.mem_of_getElem? (i := 8) (by decide +kernel)) rfl), (tg4 (List.mem_of_getElem? (i := 222) rfl) rfl), ⟨by decide, by decide, by decide +kernel⟩, by decide +kernel⟩
theorem viX7_number : rp_Vi mX7_number := ⟨(tg4 (List.mem_of_getElem? (i := 221) (by decide +kernel)) rfl), (tgs (List.mem_of_getElem? (i := 75) (by decide +kernel)) rfl)⟩
abbrev mX7_readMore : rp_MI := (yX7_readMore, cX7_readMore, 3, none)
theorem cbX7_readMore : rp_Cb mX7_readMore 1 := ⟨(tg1 (List.mem_of_getElem? (i := 8) (by decide +kernel)) rfl), (tg4 (List.mem_of_getElem? (i := 218) rfl) rfl), ⟨by decide, by decide, by decide +kernel⟩, by decide +kernel⟩
theorem viX7_readMore : rp_Vi mX7_readMore := ⟨(tg4 (List.mem_of_getElem? (i := 217) (by decide +kernel)) rfl), (tgs (List.mem_of_getElem? (i := 74) (by decide +kernel)) rfl)⟩
abbrev mX7_readLine : rp_MI := (yX7_readLine, cX7_readLine, 2, none)
theorem cbX7_readLine : rp_Cb mX7_readLine 0 := ⟨(tg1 (List.mem_of_getElem? (i := 8) (by decide +kernel)) rfl), (tg4 (List.mem_of_getElem? (i := 209) rfl) rfl), ⟨by decide, by decide, by decide +kernel⟩, by decide +kernel⟩
theorem viX7_readLine : rp_Vi mX7_readLine := ⟨(tg4 (List.mem_of_getElem? (i := 208) (by decide +kernel)) rfl), (tgs (List.mem_of_getElem? (i := 72) (by decide +kernel)) rfl)⟩
abbrev mX7_text : rp_MI := (yX7_text, cX7_text, 3, (some .int))
theorem cbX7_text : rp_Cb mX7_text 0 := ⟨(tg1 (List.mem_of_getElem? (i := 8) (by decide +kernel)) rfl), (tg4 (List.mem_of_getElem? (i := 189) rfl) rfl), ⟨by decide, by decide, by decide +kernel⟩, by decide +kernel⟩
theorem viX7_text : rp_Vi mX7_text := ⟨(tg4 (List.mem_of_getElem? (i := 187) (by decide +kernel)) rfl), (tg4 (List.mem_of_getElem? (i := 188) (by decide +kernel)) rfl)⟩
abbrev mX6_fault : rp_MI := (yX6_fault, cX6_fault, 1, (some .int))
theorem cbX6_fault : rp_Cb mX6_fault 0 := ⟨(tg1 (List.mem_of_getElem? (i := 1) (by decide +kernel)) rfl), (tg2 (List.mem_of_getElem? (i := 136) rfl) rfl), ⟨by decide, by decide, by decide +kernel⟩, by decide +kernel⟩
theorem viX6_fault : rp_Vi mX6_fault := ⟨(tg2 (List.mem_of_getElem? (i := 134) (by decide +kernel)) rfl), (tg2 (List.mem_of_getElem? (i := 135) (by decide +kernel)) rfl)⟩
abbrev mX7_fault : rp_MI := (yX7_fault, cX7_fault, 1, (some .int))
theorem cbX7_fault : rp_Cb mX7_fault 0 := ⟨(tg1 (List.mem_of_getElem? (i := 8) (by decide +kernel)) rfl), (tg4 (List.mem_of_getElem? (i := 226) rfl) rfl), ⟨by decide, by decide, by decide +kernel⟩, by decide +kernel⟩
theorem viX7_fault : rp_Vi mX7_fault := ⟨(tg4 (List.mem_of_getElem? (i := 224) (by decide +kernel)) rfl), (tg4 (List.mem_of_getElem? (i := 225) (by decide +kernel)) rfl)⟩
abbrev mX1_ofWork : rp_MI := (yX1_ofWork, cX1_ofWork, 3, (some .int))
theorem cbX1_ofWork : rp_Cb mX1_ofWork 2 := ⟨(tg1 (List.mem_of_getElem? (i := 2) (by decide +kernel)) rfl), (tg2 (List.mem_of_getElem? (i := 153) rfl) rfl), ⟨by decide, by decide, by decide +kernel⟩, by decide +kernel⟩
theorem viX1_ofWork : rp_Vi mX1_ofWork := ⟨(tg2 (List.mem_of_getElem? (i := 152) (by decide +kernel)) rfl), (tgs (List.mem_of_getElem? (i := 20) (by decide +kernel)) rfl)⟩
abbrev mX1_goesUp : rp_MI := (yX1_goesUp, cX1_goesUp, 2, (some .boolean))
theorem cbX1_goesUp : rp_Cb mX1_goesUp 1 := ⟨(tg1 (List.mem_of_getElem? (i := 2) (by decide +kernel)) rfl), (tg2 (List.mem_of_getElem? (i := 157) rfl) rfl), ⟨by decide, by decide, by decide +kernel⟩, by decide +kernel⟩
theorem viX1_goesUp : rp_Vi mX1_goesUp := ⟨(tg2 (List.mem_of_getElem? (i := 156) (by decide +kernel)) rfl), (tgs (List.mem_of_getElem? (i := 21) (by decide +kernel)) rfl)⟩
abbrev mX1_lastsOf : rp_MI := (yX1_lastsOf, cX1_lastsOf, 3, (some .int))
theorem cbX1_lastsOf : rp_Cb mX1_lastsOf 1 := ⟨(tg1 (List.mem_of_getElem? (i := 2) (by decide +kernel)) rfl), (tg2 (List.mem_of_getElem? (i := 162) rfl) rfl), ⟨by decide, by decide, by decide +kernel⟩, by decide +kernel⟩
theorem viX1_lastsOf : rp_Vi mX1_lastsOf := ⟨(tg2 (List.mem_of_getElem? (i := 161) (by decide +kernel)) rfl), (tgs (List.mem_of_getElem? (i := 22) (by decide +kernel)) rfl)⟩
abbrev mX6_clampToDyke : rp_MI := (yX6_clampToDyke, cX6_clampToDyke, 1, (some .int))
theorem cbX6_clampToDyke : rp_Cb mX6_clampToDyke 1 := ⟨(tg1 (List.mem_of_getElem? (i := 1) (by decide +kernel)) rfl), (tg2 (List.mem_of_getElem? (i := 169) rfl) rfl), ⟨by decide, by decide, by decide +kernel⟩, by decide +kernel⟩
theorem stX6_clampToDyke : rp_St mX6_clampToDyke := (tg2 (List.mem_of_getElem? (i := 168) (by decide +kernel)) rfl)
abbrev mX1_burstOf : rp_MI := (yX1_burstOf, cX1_burstOf, 2, (some .int))
theorem cbX1_burstOf : rp_Cb mX1_burstOf 1 := ⟨(tg1 (List.mem_of_getElem? (i := 2) (by decide +kernel)) rfl), (tg2 (List.mem_of_getElem? (i := 166) rfl) rfl), ⟨by decide, by decide, by decide +kernel⟩, by decide +kernel⟩
theorem viX1_burstOf : rp_Vi mX1_burstOf := ⟨(tg2 (List.mem_of_getElem? (i := 165) (by decide +kernel)) rfl), (tgs (List.mem_of_getElem? (i := 23) (by decide +kernel)) rfl)⟩
abbrev mX1_wideOf : rp_MI := (yX1_wideOf, cX1_wideOf, 3, (some .int))
theorem cbX1_wideOf : rp_Cb mX1_wideOf 1 := ⟨(tg1 (List.mem_of_getElem? (i := 2) (by decide +kernel)) rfl), (tg2 (List.mem_of_getElem? (i := 179) rfl) rfl), ⟨by decide, by decide, by decide +kernel⟩, by decide +kernel⟩
theorem viX1_wideOf : rp_Vi mX1_wideOf := ⟨(tg2 (List.mem_of_getElem? (i := 178) (by decide +kernel)) rfl), (tgs (List.mem_of_getElem? (i := 24) (by decide +kernel)) rfl)⟩
abbrev mX3_settle : rp_MI := (yX3_settle, cX3_settle, 2, none)
theorem cbX3_settle : rp_Cb mX3_settle 0 := ⟨(tg1 (List.mem_of_getElem? (i := 3) (by decide +kernel)) rfl), (tg2 (List.mem_of_getElem? (i := 149) rfl) rfl), ⟨by decide, by decide, by decide +kernel⟩, by decide +kernel⟩
theorem viX3_settle : rp_Vi mX3_settle := ⟨(tg2 (List.mem_of_getElem? (i := 148) (by decide +kernel)) rfl), (tgs (List.mem_of_getElem? (i := 19) (by decide +kernel)) rfl)⟩
abbrev mX3_begin : rp_MI := (yX3_begin, cX3_begin, 2, none)
theorem cbX3_begin : rp_Cb mX3_begin 1 := ⟨(tg1 (List.mem_of_getElem? (i := 3) (by decide +kernel)) rfl), (tg2 (List.mem_of_getElem? (i := 144) rfl) rfl), ⟨by decide, by decide, by decide +kernel⟩, by decide +kernel⟩
theorem viX3_begin : rp_Vi mX3_begin := ⟨(tg2 (List.mem_of_getElem? (i := 143) (by decide +kernel)) rfl), (tgs (List.mem_of_getElem? (i := 18) (by decide +kernel)) rfl)⟩
abbrev mX1_ofReader : rp_MI := (yX1_ofReader, cX1_ofReader, 3, (some .int))
theorem cbX1_ofReader : rp_Cb mX1_ofReader 2 := ⟨(tg1 (List.mem_of_getElem? (i := 2) (by decide +kernel)) rfl), (tg2 (List.mem_of_getElem? (i := 199) rfl) rfl), ⟨by decide, by decide, by decide +kernel⟩, by decide +kernel⟩
theorem viX1_ofReader : rp_Vi mX1_ofReader := ⟨(tg2 (List.mem_of_getElem? (i := 198) (by decide +kernel)) rfl), (tgs (List.mem_of_getElem? (i := 29) (by decide +kernel)) rfl)⟩
abbrev mX3_coughsAt : rp_MI := (yX3_coughsAt, cX3_coughsAt, 4, (some .boolean))
theorem cbX3_coughsAt : rp_Cb mX3_coughsAt 2 := ⟨(tg1 (List.mem_of_getElem? (i := 3) (by decide +kernel)) rfl), (tg2 (List.mem_of_getElem? (i := 195) rfl) rfl), ⟨by decide, by decide, by decide +kernel⟩, by decide +kernel⟩
theorem viX3_coughsAt : rp_Vi mX3_coughsAt := ⟨(tg2 (List.mem_of_getElem? (i := 194) (by decide +kernel)) rfl), (tgs (List.mem_of_getElem? (i := 28) (by decide +kernel)) rfl)⟩
abbrev mX3_isUp : rp_MI := (yX3_isUp, cX3_isUp, 3, (some .boolean))
theorem cbX3_isUp : rp_Cb mX3_isUp 2 := ⟨(tg1 (List.mem_of_getElem? (i := 3) (by decide +kernel)) rfl), (tg2 (List.mem_of_getElem? (i := 206) rfl) rfl), ⟨by decide, by decide, by decide +kernel⟩, by decide +kernel⟩
theorem viX3_isUp : rp_Vi mX3_isUp := ⟨(tg2 (List.mem_of_getElem? (i := 205) (by decide +kernel)) rfl), (tgs (List.mem_of_getElem? (i := 30) (by decide +kernel)) rfl)⟩
abbrev mX3_lookedAt : rp_MI := (yX3_lookedAt, cX3_lookedAt, 8, (some .int))
theorem cbX3_lookedAt : rp_Cb mX3_lookedAt 2 := ⟨(tg1 (List.mem_of_getElem? (i := 3) (by decide +kernel)) rfl), (tg2 (List.mem_of_getElem? (i := 191) rfl) rfl), ⟨by decide, by decide, by decide +kernel⟩, by decide +kernel⟩
theorem viX3_lookedAt : rp_Vi mX3_lookedAt := ⟨(tg2 (List.mem_of_getElem? (i := 190) (by decide +kernel)) rfl), (tgs (List.mem_of_getElem? (i := 27) (by decide +kernel)) rfl)⟩
abbrev mX3_minutesAt : rp_MI := (yX3_minutesAt, cX3_minutesAt, 5, (some .int))
theorem cbX3_minutesAt : rp_Cb mX3_minutesAt 2 := ⟨(tg1 (List.mem_of_getElem? (i := 3) (by decide +kernel)) rfl), (tg2 (List.mem_of_getElem? (i := 187) rfl) rfl), ⟨by decide, by decide, by decide +kernel⟩, by decide +kernel⟩
theorem viX3_minutesAt : rp_Vi mX3_minutesAt := ⟨(tg2 (List.mem_of_getElem? (i := 186) (by decide +kernel)) rfl), (tgs (List.mem_of_getElem? (i := 26) (by decide +kernel)) rfl)⟩
abbrev mX3_minutesOfAll : rp_MI := (yX3_minutesOfAll, cX3_minutesOfAll, 4, (some .int))
theorem cbX3_minutesOfAll : rp_Cb mX3_minutesOfAll 0 := ⟨(tg1 (List.mem_of_getElem? (i := 3) (by decide +kernel)) rfl), (tg2 (List.mem_of_getElem? (i := 183) rfl) rfl), ⟨by decide, by decide, by decide +kernel⟩, by decide +kernel⟩
theorem viX3_minutesOfAll : rp_Vi mX3_minutesOfAll := ⟨(tg2 (List.mem_of_getElem? (i := 182) (by decide +kernel)) rfl), (tgs (List.mem_of_getElem? (i := 25) (by decide +kernel)) rfl)⟩
abbrev mX3_distance : rp_MI := (yX3_distance, cX3_distance, 3, (some .int))
theorem cbX3_distance : rp_Cb mX3_distance 2 := ⟨(tg1 (List.mem_of_getElem? (i := 3) (by decide +kernel)) rfl), (tg2 (List.mem_of_getElem? (i := 226) rfl) rfl), ⟨by decide, by decide, by decide +kernel⟩, by decide +kernel⟩
theorem viX3_distance : rp_Vi mX3_distance := ⟨(tg2 (List.mem_of_getElem? (i := 225) (by decide +kernel)) rfl), (tgs (List.mem_of_getElem? (i := 35) (by decide +kernel)) rfl)⟩
abbrev mX3_reaches : rp_MI := (yX3_reaches, cX3_reaches, 3, (some .boolean))
theorem cbX3_reaches : rp_Cb mX3_reaches 2 := ⟨(tg1 (List.mem_of_getElem? (i := 3) (by decide +kernel)) rfl), (tg2 (List.mem_of_getElem? (i := 222) rfl) rfl), ⟨by decide, by decide, by decide +kernel⟩, by decide +kernel⟩
theorem viX3_reaches : rp_Vi mX3_reaches := ⟨(tg2 (List.mem_of_getElem? (i := 221) (by decide +kernel)) rfl), (tgs (List.mem_of_getElem? (i := 34) (by decide +kernel)) rfl)⟩
abbrev mX3_isWholeAlone : rp_MI := (yX3_isWholeAlone, cX3_isWholeAlone, 4, (some .boolean))
theorem cbX3_isWholeAlone : rp_Cb mX3_isWholeAlone 2 := ⟨(tg1 (List.mem_of_getElem? (i := 3) (by decide +kernel)) rfl), (tg2 (List.mem_of_getElem? (i := 218) rfl) rfl), ⟨by decide, by decide, by decide +kernel⟩, by decide +kernel⟩
theorem viX3_isWholeAlone : rp_Vi mX3_isWholeAlone := ⟨(tg2 (List.mem_of_getElem? (i := 217) (by decide +kernel)) rfl), (tgs (List.mem_of_getElem? (i := 33) (by decide +kernel)) rfl)⟩
abbrev mX3_overlap : rp_MI := (yX3_overlap, cX3_overlap, 3, (some .boolean))
theorem cbX3_overlap : rp_Cb mX3_overlap 2 := ⟨(tg1 (List.mem_of_getElem? (i := 3) (by decide +kernel)) rfl), (tg2 (List.mem_of_getElem? (i := 234) rfl) rfl), ⟨by decide, by decide, by decide +kernel⟩, by decide +kernel⟩
theorem viX3_overlap : rp_Vi mX3_overlap := ⟨(tg2 (List.mem_of_getElem? (i := 233) (by decide +kernel)) rfl), (tgs (List.mem_of_getElem? (i := 37) (by decide +kernel)) rfl)⟩
abbrev mX3_isBefore : rp_MI := (yX3_isBefore, cX3_isBefore, 6, (some .boolean))
theorem cbX3_isBefore : rp_Cb mX3_isBefore 3 := ⟨(tg1 (List.mem_of_getElem? (i := 3) (by decide +kernel)) rfl), (tg3 (List.mem_of_getElem? (i := 0) rfl) rfl), ⟨by decide, by decide, by decide +kernel⟩, by decide +kernel⟩
theorem viX3_isBefore : rp_Vi mX3_isBefore := ⟨(tg2 (List.mem_of_getElem? (i := 239) (by decide +kernel)) rfl), (tgs (List.mem_of_getElem? (i := 38) (by decide +kernel)) rfl)⟩
abbrev mX3_rivalsOf : rp_MI := (yX3_rivalsOf, cX3_rivalsOf, 5, (some .int))
theorem cbX3_rivalsOf : rp_Cb mX3_rivalsOf 2 := ⟨(tg1 (List.mem_of_getElem? (i := 3) (by decide +kernel)) rfl), (tg2 (List.mem_of_getElem? (i := 230) rfl) rfl), ⟨by decide, by decide, by decide +kernel⟩, by decide +kernel⟩
theorem viX3_rivalsOf : rp_Vi mX3_rivalsOf := ⟨(tg2 (List.mem_of_getElem? (i := 229) (by decide +kernel)) rfl), (tgs (List.mem_of_getElem? (i := 36) (by decide +kernel)) rfl)⟩
abbrev mX3_isWhole : rp_MI := (yX3_isWhole, cX3_isWhole, 3, (some .boolean))
theorem cbX3_isWhole : rp_Cb mX3_isWhole 2 := ⟨(tg1 (List.mem_of_getElem? (i := 3) (by decide +kernel)) rfl), (tg2 (List.mem_of_getElem? (i := 214) rfl) rfl), ⟨by decide, by decide, by decide +kernel⟩, by decide +kernel⟩
theorem viX3_isWhole : rp_Vi mX3_isWhole := ⟨(tg2 (List.mem_of_getElem? (i := 213) (by decide +kernel)) rfl), (tgs (List.mem_of_getElem? (i := 32) (by decide +kernel)) rfl)⟩
abbrev mX3_wholesOfAll : rp_MI := (yX3_wholesOfAll, cX3_wholesOfAll, 4, (some .int))
theorem cbX3_wholesOfAll : rp_Cb mX3_wholesOfAll 0 := ⟨(tg1 (List.mem_of_getElem? (i := 3) (by decide +kernel)) rfl), (tg2 (List.mem_of_getElem? (i := 210) rfl) rfl), ⟨by decide, by decide, by decide +kernel⟩, by decide +kernel⟩
theorem viX3_wholesOfAll : rp_Vi mX3_wholesOfAll := ⟨(tg2 (List.mem_of_getElem? (i := 209) (by decide +kernel)) rfl), (tgs (List.mem_of_getElem? (i := 31) (by decide +kernel)) rfl)⟩
abbrev mX6_rule : rp_MI := (yX6_rule, cX6_rule, 2, (some .int))
theorem cbX6_rule : rp_Cb mX6_rule 1 := ⟨(tg1 (List.mem_of_getElem? (i := 1) (by decide +kernel)) rfl), (tg2 (List.mem_of_getElem? (i := 140) rfl) rfl), ⟨by decide, by decide, by decide +kernel⟩, by decide +kernel⟩
theorem viX6_rule : rp_Vi mX6_rule := ⟨(tg2 (List.mem_of_getElem? (i := 138) (by decide +kernel)) rfl), (tg2 (List.mem_of_getElem? (i := 139) (by decide +kernel)) rfl)⟩
abbrev mX7_shore : rp_MI := (yX7_shore, cX7_shore, 1, (some .int))
theorem cbX7_shore : rp_Cb mX7_shore 1 := ⟨(tg1 (List.mem_of_getElem? (i := 8) (by decide +kernel)) rfl), (tg5 (List.mem_of_getElem? (i := 5) rfl) rfl), ⟨by decide, by decide, by decide +kernel⟩, by decide +kernel⟩
theorem stX7_shore : rp_St mX7_shore := (tg5 (List.mem_of_getElem? (i := 4) (by decide +kernel)) rfl)
abbrev mX7_burstOn : rp_MI := (yX7_burstOn, cX7_burstOn, 3, (some .int))
theorem cbX7_burstOn : rp_Cb mX7_burstOn 2 := ⟨(tg1 (List.mem_of_getElem? (i := 8) (by decide +kernel)) rfl), (tg5 (List.mem_of_getElem? (i := 2) rfl) rfl), ⟨by decide, by decide, by decide +kernel⟩, by decide +kernel⟩
theorem viX7_burstOn : rp_Vi mX7_burstOn := ⟨(tg5 (List.mem_of_getElem? (i := 1) (by decide +kernel)) rfl), (tgs (List.mem_of_getElem? (i := 78) (by decide +kernel)) rfl)⟩
abbrev mX7_apart : rp_MI := (yX7_apart, cX7_apart, 2, (some .int))
theorem cbX7_apart : rp_Cb mX7_apart 2 := ⟨(tg1 (List.mem_of_getElem? (i := 8) (by decide +kernel)) rfl), (tg5 (List.mem_of_getElem? (i := 8) rfl) rfl), ⟨by decide, by decide, by decide +kernel⟩, by decide +kernel⟩
theorem stX7_apart : rp_St mX7_apart := (tg5 (List.mem_of_getElem? (i := 7) (by decide +kernel)) rfl)
abbrev mX7_wideOn : rp_MI := (yX7_wideOn, cX7_wideOn, 5, (some .int))
theorem cbX7_wideOn : rp_Cb mX7_wideOn 2 := ⟨(tg1 (List.mem_of_getElem? (i := 8) (by decide +kernel)) rfl), (tg5 (List.mem_of_getElem? (i := 12) rfl) rfl), ⟨by decide, by decide, by decide +kernel⟩, by decide +kernel⟩
theorem viX7_wideOn : rp_Vi mX7_wideOn := ⟨(tg5 (List.mem_of_getElem? (i := 11) (by decide +kernel)) rfl), (tgs (List.mem_of_getElem? (i := 79) (by decide +kernel)) rfl)⟩
abbrev mX7_goesUp : rp_MI := (yX7_goesUp, cX7_goesUp, 3, (some .boolean))
theorem cbX7_goesUp : rp_Cb mX7_goesUp 2 := ⟨(tg1 (List.mem_of_getElem? (i := 8) (by decide +kernel)) rfl), (tg5 (List.mem_of_getElem? (i := 20) rfl) rfl), ⟨by decide, by decide, by decide +kernel⟩, by decide +kernel⟩
theorem viX7_goesUp : rp_Vi mX7_goesUp := ⟨(tg5 (List.mem_of_getElem? (i := 19) (by decide +kernel)) rfl), (tgs (List.mem_of_getElem? (i := 81) (by decide +kernel)) rfl)⟩
abbrev mX7_lastsOn : rp_MI := (yX7_lastsOn, cX7_lastsOn, 5, (some .int))
theorem cbX7_lastsOn : rp_Cb mX7_lastsOn 2 := ⟨(tg1 (List.mem_of_getElem? (i := 8) (by decide +kernel)) rfl), (tg5 (List.mem_of_getElem? (i := 24) rfl) rfl), ⟨by decide, by decide, by decide +kernel⟩, by decide +kernel⟩
theorem viX7_lastsOn : rp_Vi mX7_lastsOn := ⟨(tg5 (List.mem_of_getElem? (i := 23) (by decide +kernel)) rfl), (tgs (List.mem_of_getElem? (i := 82) (by decide +kernel)) rfl)⟩
abbrev mX7_isUp : rp_MI := (yX7_isUp, cX7_isUp, 4, (some .boolean))
theorem cbX7_isUp : rp_Cb mX7_isUp 3 := ⟨(tg1 (List.mem_of_getElem? (i := 8) (by decide +kernel)) rfl), (tg5 (List.mem_of_getElem? (i := 16) rfl) rfl), ⟨by decide, by decide, by decide +kernel⟩, by decide +kernel⟩
theorem viX7_isUp : rp_Vi mX7_isUp := ⟨(tg5 (List.mem_of_getElem? (i := 15) (by decide +kernel)) rfl), (tgs (List.mem_of_getElem? (i := 80) (by decide +kernel)) rfl)⟩
abbrev mX7_looksOn : rp_MI := (yX7_looksOn, cX7_looksOn, 9, (some .int))
theorem cbX7_looksOn : rp_Cb mX7_looksOn 3 := ⟨(tg1 (List.mem_of_getElem? (i := 8) (by decide +kernel)) rfl), (tg4 (List.mem_of_getElem? (i := 238) rfl) rfl), ⟨by decide, by decide, by decide +kernel⟩, by decide +kernel⟩
theorem viX7_looksOn : rp_Vi mX7_looksOn := ⟨(tg4 (List.mem_of_getElem? (i := 237) (by decide +kernel)) rfl), (tgs (List.mem_of_getElem? (i := 77) (by decide +kernel)) rfl)⟩
abbrev mX7_isWhole : rp_MI := (yX7_isWhole, cX7_isWhole, 5, (some .boolean))
theorem cbX7_isWhole : rp_Cb mX7_isWhole 3 := ⟨(tg1 (List.mem_of_getElem? (i := 8) (by decide +kernel)) rfl), (tg5 (List.mem_of_getElem? (i := 28) rfl) rfl), ⟨by decide, by decide, by decide +kernel⟩, by decide +kernel⟩
theorem viX7_isWhole : rp_Vi mX7_isWhole := ⟨(tg5 (List.mem_of_getElem? (i := 27) (by decide +kernel)) rfl), (tgs (List.mem_of_getElem? (i := 83) (by decide +kernel)) rfl)⟩
abbrev mX7_nightOn : rp_MI := (yX7_nightOn, cX7_nightOn, 6, none)
theorem cbX7_nightOn : rp_Cb mX7_nightOn 1 := ⟨(tg1 (List.mem_of_getElem? (i := 8) (by decide +kernel)) rfl), (tg4 (List.mem_of_getElem? (i := 234) rfl) rfl), ⟨by decide, by decide, by decide +kernel⟩, by decide +kernel⟩
theorem viX7_nightOn : rp_Vi mX7_nightOn := ⟨(tg4 (List.mem_of_getElem? (i := 233) (by decide +kernel)) rfl), (tgs (List.mem_of_getElem? (i := 76) (by decide +kernel)) rfl)⟩
abbrev mX7_rule : rp_MI := (yX7_rule, cX7_rule, 2, (some .int))
theorem cbX7_rule : rp_Cb mX7_rule 1 := ⟨(tg1 (List.mem_of_getElem? (i := 8) (by decide +kernel)) rfl), (tg4 (List.mem_of_getElem? (i := 230) rfl) rfl), ⟨by decide, by decide, by decide +kernel⟩, by decide +kernel⟩
theorem viX7_rule : rp_Vi mX7_rule := ⟨(tg4 (List.mem_of_getElem? (i := 228) (by decide +kernel)) rfl), (tg4 (List.mem_of_getElem? (i := 229) (by decide +kernel)) rfl)⟩
abbrev mX1_hasWork : rp_MI := (yX1_hasWork, cX1_hasWork, 2, (some .boolean))
theorem cbX1_hasWork : rp_Cb mX1_hasWork 1 := ⟨(tg1 (List.mem_of_getElem? (i := 2) (by decide +kernel)) rfl), (tg3 (List.mem_of_getElem? (i := 8) rfl) rfl), ⟨by decide, by decide, by decide +kernel⟩, by decide +kernel⟩
theorem viX1_hasWork : rp_Vi mX1_hasWork := ⟨(tg3 (List.mem_of_getElem? (i := 7) (by decide +kernel)) rfl), (tgs (List.mem_of_getElem? (i := 39) (by decide +kernel)) rfl)⟩
abbrev mX1_stickOf : rp_MI := (yX1_stickOf, cX1_stickOf, 2, (some .int))
theorem cbX1_stickOf : rp_Cb mX1_stickOf 1 := ⟨(tg1 (List.mem_of_getElem? (i := 2) (by decide +kernel)) rfl), (tg3 (List.mem_of_getElem? (i := 17) rfl) rfl), ⟨by decide, by decide, by decide +kernel⟩, by decide +kernel⟩
theorem viX1_stickOf : rp_Vi mX1_stickOf := ⟨(tg3 (List.mem_of_getElem? (i := 16) (by decide +kernel)) rfl), (tgs (List.mem_of_getElem? (i := 40) (by decide +kernel)) rfl)⟩
abbrev mX3_readersWhole : rp_MI := (yX3_readersWhole, cX3_readersWhole, 4, (some .int))
theorem cbX3_readersWhole : rp_Cb mX3_readersWhole 1 := ⟨(tg1 (List.mem_of_getElem? (i := 3) (by decide +kernel)) rfl), (tg3 (List.mem_of_getElem? (i := 23) rfl) rfl), ⟨by decide, by decide, by decide +kernel⟩, by decide +kernel⟩
theorem viX3_readersWhole : rp_Vi mX3_readersWhole := ⟨(tg3 (List.mem_of_getElem? (i := 22) (by decide +kernel)) rfl), (tgs (List.mem_of_getElem? (i := 41) (by decide +kernel)) rfl)⟩
abbrev mX6_work : rp_MI := (yX6_work, cX6_work, 3, (some .int))
theorem cbX6_work : rp_Cb mX6_work 2 := ⟨(tg1 (List.mem_of_getElem? (i := 1) (by decide +kernel)) rfl), (tg3 (List.mem_of_getElem? (i := 4) rfl) rfl), ⟨by decide, by decide, by decide +kernel⟩, by decide +kernel⟩
theorem viX6_work : rp_Vi mX6_work := ⟨(tg3 (List.mem_of_getElem? (i := 2) (by decide +kernel)) rfl), (tg3 (List.mem_of_getElem? (i := 3) (by decide +kernel)) rfl)⟩
abbrev mX7_isWork : rp_MI := (yX7_isWork, cX7_isWork, 2, (some .boolean))
theorem cbX7_isWork : rp_Cb mX7_isWork 1 := ⟨(tg1 (List.mem_of_getElem? (i := 8) (by decide +kernel)) rfl), (tg5 (List.mem_of_getElem? (i := 36) rfl) rfl), ⟨by decide, by decide, by decide +kernel⟩, by decide +kernel⟩
theorem viX7_isWork : rp_Vi mX7_isWork := ⟨(tg5 (List.mem_of_getElem? (i := 35) (by decide +kernel)) rfl), (tgs (List.mem_of_getElem? (i := 84) (by decide +kernel)) rfl)⟩
abbrev mX7_stickOn : rp_MI := (yX7_stickOn, cX7_stickOn, 5, (some .int))
theorem cbX7_stickOn : rp_Cb mX7_stickOn 2 := ⟨(tg1 (List.mem_of_getElem? (i := 8) (by decide +kernel)) rfl), (tg5 (List.mem_of_getElem? (i := 40) rfl) rfl), ⟨by decide, by decide, by decide +kernel⟩, by decide +kernel⟩
theorem viX7_stickOn : rp_Vi mX7_stickOn := ⟨(tg5 (List.mem_of_getElem? (i := 39) (by decide +kernel)) rfl), (tgs (List.mem_of_getElem? (i := 85) (by decide +kernel)) rfl)⟩
abbrev mX7_wholeBy : rp_MI := (yX7_wholeBy, cX7_wholeBy, 5, (some .int))
theorem cbX7_wholeBy : rp_Cb mX7_wholeBy 2 := ⟨(tg1 (List.mem_of_getElem? (i := 8) (by decide +kernel)) rfl), (tg5 (List.mem_of_getElem? (i := 44) rfl) rfl), ⟨by decide, by decide, by decide +kernel⟩, by decide +kernel⟩
theorem viX7_wholeBy : rp_Vi mX7_wholeBy := ⟨(tg5 (List.mem_of_getElem? (i := 43) (by decide +kernel)) rfl), (tgs (List.mem_of_getElem? (i := 86) (by decide +kernel)) rfl)⟩
abbrev mX7_work : rp_MI := (yX7_work, cX7_work, 3, (some .int))
theorem cbX7_work : rp_Cb mX7_work 2 := ⟨(tg1 (List.mem_of_getElem? (i := 8) (by decide +kernel)) rfl), (tg5 (List.mem_of_getElem? (i := 32) rfl) rfl), ⟨by decide, by decide, by decide +kernel⟩, by decide +kernel⟩
theorem viX7_work : rp_Vi mX7_work := ⟨(tg5 (List.mem_of_getElem? (i := 30) (by decide +kernel)) rfl), (tg5 (List.mem_of_getElem? (i := 31) (by decide +kernel)) rfl)⟩
abbrev mX1_hasReader : rp_MI := (yX1_hasReader, cX1_hasReader, 2, (some .boolean))
theorem cbX1_hasReader : rp_Cb mX1_hasReader 1 := ⟨(tg1 (List.mem_of_getElem? (i := 2) (by decide +kernel)) rfl), (tg3 (List.mem_of_getElem? (i := 31) rfl) rfl), ⟨by decide, by decide, by decide +kernel⟩, by decide +kernel⟩
theorem viX1_hasReader : rp_Vi mX1_hasReader := ⟨(tg3 (List.mem_of_getElem? (i := 30) (by decide +kernel)) rfl), (tgs (List.mem_of_getElem? (i := 42) (by decide +kernel)) rfl)⟩
abbrev mX3_worksWhole : rp_MI := (yX3_worksWhole, cX3_worksWhole, 4, (some .int))
theorem cbX3_worksWhole : rp_Cb mX3_worksWhole 1 := ⟨(tg1 (List.mem_of_getElem? (i := 3) (by decide +kernel)) rfl), (tg3 (List.mem_of_getElem? (i := 36) rfl) rfl), ⟨by decide, by decide, by decide +kernel⟩, by decide +kernel⟩
theorem viX3_worksWhole : rp_Vi mX3_worksWhole := ⟨(tg3 (List.mem_of_getElem? (i := 35) (by decide +kernel)) rfl), (tgs (List.mem_of_getElem? (i := 43) (by decide +kernel)) rfl)⟩
abbrev mX3_minutesOf : rp_MI := (yX3_minutesOf, cX3_minutesOf, 4, (some .int))
theorem cbX3_minutesOf : rp_Cb mX3_minutesOf 1 := ⟨(tg1 (List.mem_of_getElem? (i := 3) (by decide +kernel)) rfl), (tg3 (List.mem_of_getElem? (i := 40) rfl) rfl), ⟨by decide, by decide, by decide +kernel⟩, by decide +kernel⟩
theorem viX3_minutesOf : rp_Vi mX3_minutesOf := ⟨(tg3 (List.mem_of_getElem? (i := 39) (by decide +kernel)) rfl), (tgs (List.mem_of_getElem? (i := 44) (by decide +kernel)) rfl)⟩
abbrev mX6_reader : rp_MI := (yX6_reader, cX6_reader, 3, (some .int))
theorem cbX6_reader : rp_Cb mX6_reader 2 := ⟨(tg1 (List.mem_of_getElem? (i := 1) (by decide +kernel)) rfl), (tg3 (List.mem_of_getElem? (i := 27) rfl) rfl), ⟨by decide, by decide, by decide +kernel⟩, by decide +kernel⟩
theorem viX6_reader : rp_Vi mX6_reader := ⟨(tg3 (List.mem_of_getElem? (i := 25) (by decide +kernel)) rfl), (tg3 (List.mem_of_getElem? (i := 26) (by decide +kernel)) rfl)⟩
abbrev mX7_isReader : rp_MI := (yX7_isReader, cX7_isReader, 2, (some .boolean))
theorem cbX7_isReader : rp_Cb mX7_isReader 1 := ⟨(tg1 (List.mem_of_getElem? (i := 8) (by decide +kernel)) rfl), (tg5 (List.mem_of_getElem? (i := 52) rfl) rfl), ⟨by decide, by decide, by decide +kernel⟩, by decide +kernel⟩
theorem viX7_isReader : rp_Vi mX7_isReader := ⟨(tg5 (List.mem_of_getElem? (i := 51) (by decide +kernel)) rfl), (tgs (List.mem_of_getElem? (i := 87) (by decide +kernel)) rfl)⟩
abbrev mX7_minutesOf : rp_MI := (yX7_minutesOf, cX7_minutesOf, 4, (some .int))
theorem cbX7_minutesOf : rp_Cb mX7_minutesOf 1 := ⟨(tg1 (List.mem_of_getElem? (i := 8) (by decide +kernel)) rfl), (tg5 (List.mem_of_getElem? (i := 57) rfl) rfl), ⟨by decide, by decide, by decide +kernel⟩, by decide +kernel⟩
theorem viX7_minutesOf : rp_Vi mX7_minutesOf := ⟨(tg5 (List.mem_of_getElem? (i := 56) (by decide +kernel)) rfl), (tgs (List.mem_of_getElem? (i := 88) (by decide +kernel)) rfl)⟩
abbrev mX7_reader : rp_MI := (yX7_reader, cX7_reader, 5, (some .int))
theorem cbX7_reader : rp_Cb mX7_reader 2 := ⟨(tg1 (List.mem_of_getElem? (i := 8) (by decide +kernel)) rfl), (tg5 (List.mem_of_getElem? (i := 48) rfl) rfl), ⟨by decide, by decide, by decide +kernel⟩, by decide +kernel⟩
theorem viX7_reader : rp_Vi mX7_reader := ⟨(tg5 (List.mem_of_getElem? (i := 46) (by decide +kernel)) rfl), (tg5 (List.mem_of_getElem? (i := 47) (by decide +kernel)) rfl)⟩
abbrev mX6_reads : rp_MI := (yX6_reads, cX6_reads, 3, (some .int))
theorem cbX6_reads : rp_Cb mX6_reads 2 := ⟨(tg1 (List.mem_of_getElem? (i := 1) (by decide +kernel)) rfl), (tg3 (List.mem_of_getElem? (i := 44) rfl) rfl), ⟨by decide, by decide, by decide +kernel⟩, by decide +kernel⟩
theorem viX6_reads : rp_Vi mX6_reads := ⟨(tg3 (List.mem_of_getElem? (i := 42) (by decide +kernel)) rfl), (tg3 (List.mem_of_getElem? (i := 43) (by decide +kernel)) rfl)⟩
abbrev mX7_reads : rp_MI := (yX7_reads, cX7_reads, 3, (some .int))
theorem cbX7_reads : rp_Cb mX7_reads 2 := ⟨(tg1 (List.mem_of_getElem? (i := 8) (by decide +kernel)) rfl), (tg5 (List.mem_of_getElem? (i := 61) rfl) rfl), ⟨by decide, by decide, by decide +kernel⟩, by decide +kernel⟩
theorem viX7_reads : rp_Vi mX7_reads := ⟨(tg5 (List.mem_of_getElem? (i := 59) (by decide +kernel)) rfl), (tg5 (List.mem_of_getElem? (i := 60) (by decide +kernel)) rfl)⟩
abbrev mX6_looks : rp_MI := (yX6_looks, cX6_looks, 3, (some .int))
theorem cbX6_looks : rp_Cb mX6_looks 2 := ⟨(tg1 (List.mem_of_getElem? (i := 1) (by decide +kernel)) rfl), (tg3 (List.mem_of_getElem? (i := 49) rfl) rfl), ⟨by decide, by decide, by decide +kernel⟩, by decide +kernel⟩
theorem viX6_looks : rp_Vi mX6_looks := ⟨(tg3 (List.mem_of_getElem? (i := 47) (by decide +kernel)) rfl), (tg3 (List.mem_of_getElem? (i := 48) (by decide +kernel)) rfl)⟩
abbrev mX7_isMinute : rp_MI := (yX7_isMinute, cX7_isMinute, 1, (some .boolean))
theorem cbX7_isMinute : rp_Cb mX7_isMinute 1 := ⟨(tg1 (List.mem_of_getElem? (i := 8) (by decide +kernel)) rfl), (tg5 (List.mem_of_getElem? (i := 68) rfl) rfl), ⟨by decide, by decide, by decide +kernel⟩, by decide +kernel⟩
theorem stX7_isMinute : rp_St mX7_isMinute := (tg5 (List.mem_of_getElem? (i := 67) (by decide +kernel)) rfl)
abbrev mX7_looks : rp_MI := (yX7_looks, cX7_looks, 3, (some .int))
theorem cbX7_looks : rp_Cb mX7_looks 2 := ⟨(tg1 (List.mem_of_getElem? (i := 8) (by decide +kernel)) rfl), (tg5 (List.mem_of_getElem? (i := 65) rfl) rfl), ⟨by decide, by decide, by decide +kernel⟩, by decide +kernel⟩
theorem viX7_looks : rp_Vi mX7_looks := ⟨(tg5 (List.mem_of_getElem? (i := 63) (by decide +kernel)) rfl), (tg5 (List.mem_of_getElem? (i := 64) (by decide +kernel)) rfl)⟩
abbrev mX6_sky : rp_MI := (yX6_sky, cX6_sky, 4, (some .int))
theorem cbX6_sky : rp_Cb mX6_sky 1 := ⟨(tg1 (List.mem_of_getElem? (i := 1) (by decide +kernel)) rfl), (tg3 (List.mem_of_getElem? (i := 54) rfl) rfl), ⟨by decide, by decide, by decide +kernel⟩, by decide +kernel⟩
theorem viX6_sky : rp_Vi mX6_sky := ⟨(tg3 (List.mem_of_getElem? (i := 52) (by decide +kernel)) rfl), (tg3 (List.mem_of_getElem? (i := 53) (by decide +kernel)) rfl)⟩
abbrev mX7_sky : rp_MI := (yX7_sky, cX7_sky, 4, (some .int))
theorem cbX7_sky : rp_Cb mX7_sky 1 := ⟨(tg1 (List.mem_of_getElem? (i := 8) (by decide +kernel)) rfl), (tg5 (List.mem_of_getElem? (i := 73) rfl) rfl), ⟨by decide, by decide, by decide +kernel⟩, by decide +kernel⟩
theorem viX7_sky : rp_Vi mX7_sky := ⟨(tg5 (List.mem_of_getElem? (i := 71) (by decide +kernel)) rfl), (tg5 (List.mem_of_getElem? (i := 72) (by decide +kernel)) rfl)⟩
abbrev mX6_alter : rp_MI := (yX6_alter, cX6_alter, 5, (some .int))
theorem cbX6_alter : rp_Cb mX6_alter 3 := ⟨(tg1 (List.mem_of_getElem? (i := 1) (by decide +kernel)) rfl), (tg3 (List.mem_of_getElem? (i := 59) rfl) rfl), ⟨by decide, by decide, by decide +kernel⟩, by decide +kernel⟩
theorem viX6_alter : rp_Vi mX6_alter := ⟨(tg3 (List.mem_of_getElem? (i := 57) (by decide +kernel)) rfl), (tg3 (List.mem_of_getElem? (i := 58) (by decide +kernel)) rfl)⟩
abbrev mX7_isPlace : rp_MI := (yX7_isPlace, cX7_isPlace, 1, (some .boolean))
theorem cbX7_isPlace : rp_Cb mX7_isPlace 1 := ⟨(tg1 (List.mem_of_getElem? (i := 8) (by decide +kernel)) rfl), (tg5 (List.mem_of_getElem? (i := 83) rfl) rfl), ⟨by decide, by decide, by decide +kernel⟩, by decide +kernel⟩
theorem stX7_isPlace : rp_St mX7_isPlace := (tg5 (List.mem_of_getElem? (i := 82) (by decide +kernel)) rfl)
abbrev mX7_isGood : rp_MI := (yX7_isGood, cX7_isGood, 2, (some .boolean))
theorem cbX7_isGood : rp_Cb mX7_isGood 2 := ⟨(tg1 (List.mem_of_getElem? (i := 8) (by decide +kernel)) rfl), (tg5 (List.mem_of_getElem? (i := 80) rfl) rfl), ⟨by decide, by decide, by decide +kernel⟩, by decide +kernel⟩
theorem stX7_isGood : rp_St mX7_isGood := (tg5 (List.mem_of_getElem? (i := 79) (by decide +kernel)) rfl)
abbrev mX7_puts : rp_MI := (yX7_puts, cX7_puts, 6, (some .int))
theorem cbX7_puts : rp_Cb mX7_puts 4 := ⟨(tg1 (List.mem_of_getElem? (i := 8) (by decide +kernel)) rfl), (tg5 (List.mem_of_getElem? (i := 90) rfl) rfl), ⟨by decide, by decide, by decide +kernel⟩, by decide +kernel⟩
theorem viX7_puts : rp_Vi mX7_puts := ⟨(tg5 (List.mem_of_getElem? (i := 89) (by decide +kernel)) rfl), (tgs (List.mem_of_getElem? (i := 89) (by decide +kernel)) rfl)⟩
abbrev mX7_alter : rp_MI := (yX7_alter, cX7_alter, 4, (some .int))
theorem cbX7_alter : rp_Cb mX7_alter 3 := ⟨(tg1 (List.mem_of_getElem? (i := 8) (by decide +kernel)) rfl), (tg5 (List.mem_of_getElem? (i := 77) rfl) rfl), ⟨by decide, by decide, by decide +kernel⟩, by decide +kernel⟩
theorem viX7_alter : rp_Vi mX7_alter := ⟨(tg5 (List.mem_of_getElem? (i := 75) (by decide +kernel)) rfl), (tg5 (List.mem_of_getElem? (i := 76) (by decide +kernel)) rfl)⟩
abbrev mX6_move : rp_MI := (yX6_move, cX6_move, 5, (some .int))
theorem cbX6_move : rp_Cb mX6_move 3 := ⟨(tg1 (List.mem_of_getElem? (i := 1) (by decide +kernel)) rfl), (tg3 (List.mem_of_getElem? (i := 65) rfl) rfl), ⟨by decide, by decide, by decide +kernel⟩, by decide +kernel⟩
theorem viX6_move : rp_Vi mX6_move := ⟨(tg3 (List.mem_of_getElem? (i := 63) (by decide +kernel)) rfl), (tg3 (List.mem_of_getElem? (i := 64) (by decide +kernel)) rfl)⟩
abbrev mX7_move : rp_MI := (yX7_move, cX7_move, 5, (some .int))
theorem cbX7_move : rp_Cb mX7_move 3 := ⟨(tg1 (List.mem_of_getElem? (i := 8) (by decide +kernel)) rfl), (tg5 (List.mem_of_getElem? (i := 94) rfl) rfl), ⟨by decide, by decide, by decide +kernel⟩, by decide +kernel⟩
theorem viX7_move : rp_Vi mX7_move := ⟨(tg5 (List.mem_of_getElem? (i := 92) (by decide +kernel)) rfl), (tg5 (List.mem_of_getElem? (i := 93) (by decide +kernel)) rfl)⟩
abbrev mX6_blow : rp_MI := (yX6_blow, cX6_blow, 3, (some .int))
theorem cbX6_blow : rp_Cb mX6_blow 1 := ⟨(tg1 (List.mem_of_getElem? (i := 1) (by decide +kernel)) rfl), (tg3 (List.mem_of_getElem? (i := 71) rfl) rfl), ⟨by decide, by decide, by decide +kernel⟩, by decide +kernel⟩
theorem viX6_blow : rp_Vi mX6_blow := ⟨(tg3 (List.mem_of_getElem? (i := 69) (by decide +kernel)) rfl), (tg3 (List.mem_of_getElem? (i := 70) (by decide +kernel)) rfl)⟩
abbrev mX7_blow : rp_MI := (yX7_blow, cX7_blow, 2, (some .int))
theorem cbX7_blow : rp_Cb mX7_blow 1 := ⟨(tg1 (List.mem_of_getElem? (i := 8) (by decide +kernel)) rfl), (tg5 (List.mem_of_getElem? (i := 98) rfl) rfl), ⟨by decide, by decide, by decide +kernel⟩, by decide +kernel⟩
theorem viX7_blow : rp_Vi mX7_blow := ⟨(tg5 (List.mem_of_getElem? (i := 96) (by decide +kernel)) rfl), (tg5 (List.mem_of_getElem? (i := 97) (by decide +kernel)) rfl)⟩
abbrev mX6_damp : rp_MI := (yX6_damp, cX6_damp, 3, (some .int))
theorem cbX6_damp : rp_Cb mX6_damp 1 := ⟨(tg1 (List.mem_of_getElem? (i := 1) (by decide +kernel)) rfl), (tg3 (List.mem_of_getElem? (i := 75) rfl) rfl), ⟨by decide, by decide, by decide +kernel⟩, by decide +kernel⟩
theorem viX6_damp : rp_Vi mX6_damp := ⟨(tg3 (List.mem_of_getElem? (i := 73) (by decide +kernel)) rfl), (tg3 (List.mem_of_getElem? (i := 74) (by decide +kernel)) rfl)⟩
abbrev mX7_damp : rp_MI := (yX7_damp, cX7_damp, 2, (some .int))
theorem cbX7_damp : rp_Cb mX7_damp 1 := ⟨(tg1 (List.mem_of_getElem? (i := 8) (by decide +kernel)) rfl), (tg5 (List.mem_of_getElem? (i := 103) rfl) rfl), ⟨by decide, by decide, by decide +kernel⟩, by decide +kernel⟩
theorem viX7_damp : rp_Vi mX7_damp := ⟨(tg5 (List.mem_of_getElem? (i := 101) (by decide +kernel)) rfl), (tg5 (List.mem_of_getElem? (i := 102) (by decide +kernel)) rfl)⟩
abbrev mX6_write : rp_MI := (yX6_write, cX6_write, 5, (some .int))
theorem cbX6_write : rp_Cb mX6_write 4 := ⟨(tg1 (List.mem_of_getElem? (i := 1) (by decide +kernel)) rfl), (tg3 (List.mem_of_getElem? (i := 79) rfl) rfl), ⟨by decide, by decide, by decide +kernel⟩, by decide +kernel⟩
theorem viX6_write : rp_Vi mX6_write := ⟨(tg3 (List.mem_of_getElem? (i := 77) (by decide +kernel)) rfl), (tg3 (List.mem_of_getElem? (i := 78) (by decide +kernel)) rfl)⟩
abbrev mX7_writes : rp_MI := (yX7_writes, cX7_writes, 6, (some .int))
theorem cbX7_writes : rp_Cb mX7_writes 4 := ⟨(tg1 (List.mem_of_getElem? (i := 8) (by decide +kernel)) rfl), (tg5 (List.mem_of_getElem? (i := 111) rfl) rfl), ⟨by decide, by decide, by decide +kernel⟩, by decide +kernel⟩
theorem viX7_writes : rp_Vi mX7_writes := ⟨(tg5 (List.mem_of_getElem? (i := 110) (by decide +kernel)) rfl), (tgs (List.mem_of_getElem? (i := 90) (by decide +kernel)) rfl)⟩
abbrev mX7_write : rp_MI := (yX7_write, cX7_write, 5, (some .int))
theorem cbX7_write : rp_Cb mX7_write 4 := ⟨(tg1 (List.mem_of_getElem? (i := 8) (by decide +kernel)) rfl), (tg5 (List.mem_of_getElem? (i := 107) rfl) rfl), ⟨by decide, by decide, by decide +kernel⟩, by decide +kernel⟩
theorem viX7_write : rp_Vi mX7_write := ⟨(tg5 (List.mem_of_getElem? (i := 105) (by decide +kernel)) rfl), (tg5 (List.mem_of_getElem? (i := 106) (by decide +kernel)) rfl)⟩
abbrev mX6_come : rp_MI := (yX6_come, cX6_come, 3, (some .int))
theorem cbX6_come : rp_Cb mX6_come 2 := ⟨(tg1 (List.mem_of_getElem? (i := 1) (by decide +kernel)) rfl), (tg3 (List.mem_of_getElem? (i := 84) rfl) rfl), ⟨by decide, by decide, by decide +kernel⟩, by decide +kernel⟩
theorem viX6_come : rp_Vi mX6_come := ⟨(tg3 (List.mem_of_getElem? (i := 82) (by decide +kernel)) rfl), (tg3 (List.mem_of_getElem? (i := 83) (by decide +kernel)) rfl)⟩
abbrev mX7_come : rp_MI := (yX7_come, cX7_come, 4, (some .int))
theorem cbX7_come : rp_Cb mX7_come 2 := ⟨(tg1 (List.mem_of_getElem? (i := 8) (by decide +kernel)) rfl), (tg5 (List.mem_of_getElem? (i := 115) rfl) rfl), ⟨by decide, by decide, by decide +kernel⟩, by decide +kernel⟩
theorem viX7_come : rp_Vi mX7_come := ⟨(tg5 (List.mem_of_getElem? (i := 113) (by decide +kernel)) rfl), (tg5 (List.mem_of_getElem? (i := 114) (by decide +kernel)) rfl)⟩
abbrev mX6_burn : rp_MI := (yX6_burn, cX6_burn, 3, (some .int))
theorem cbX6_burn : rp_Cb mX6_burn 1 := ⟨(tg1 (List.mem_of_getElem? (i := 1) (by decide +kernel)) rfl), (tg3 (List.mem_of_getElem? (i := 89) rfl) rfl), ⟨by decide, by decide, by decide +kernel⟩, by decide +kernel⟩
theorem viX6_burn : rp_Vi mX6_burn := ⟨(tg3 (List.mem_of_getElem? (i := 87) (by decide +kernel)) rfl), (tg3 (List.mem_of_getElem? (i := 88) (by decide +kernel)) rfl)⟩
abbrev mX7_burn : rp_MI := (yX7_burn, cX7_burn, 2, (some .int))
theorem cbX7_burn : rp_Cb mX7_burn 1 := ⟨(tg1 (List.mem_of_getElem? (i := 8) (by decide +kernel)) rfl), (tg5 (List.mem_of_getElem? (i := 119) rfl) rfl), ⟨by decide, by decide, by decide +kernel⟩, by decide +kernel⟩
theorem viX7_burn : rp_Vi mX7_burn := ⟨(tg5 (List.mem_of_getElem? (i := 117) (by decide +kernel)) rfl), (tg5 (List.mem_of_getElem? (i := 118) (by decide +kernel)) rfl)⟩
abbrev mX6_leave : rp_MI := (yX6_leave, cX6_leave, 3, (some .int))
theorem cbX6_leave : rp_Cb mX6_leave 1 := ⟨(tg1 (List.mem_of_getElem? (i := 1) (by decide +kernel)) rfl), (tg3 (List.mem_of_getElem? (i := 93) rfl) rfl), ⟨by decide, by decide, by decide +kernel⟩, by decide +kernel⟩
theorem viX6_leave : rp_Vi mX6_leave := ⟨(tg3 (List.mem_of_getElem? (i := 91) (by decide +kernel)) rfl), (tg3 (List.mem_of_getElem? (i := 92) (by decide +kernel)) rfl)⟩
abbrev mX7_leave : rp_MI := (yX7_leave, cX7_leave, 2, (some .int))
theorem cbX7_leave : rp_Cb mX7_leave 1 := ⟨(tg1 (List.mem_of_getElem? (i := 8) (by decide +kernel)) rfl), (tg5 (List.mem_of_getElem? (i := 123) rfl) rfl), ⟨by decide, by decide, by decide +kernel⟩, by decide +kernel⟩
theorem viX7_leave : rp_Vi mX7_leave := ⟨(tg5 (List.mem_of_getElem? (i := 121) (by decide +kernel)) rfl), (tg5 (List.mem_of_getElem? (i := 122) (by decide +kernel)) rfl)⟩
abbrev mX6_first : rp_MI := (yX6_first, cX6_first, 3, (some .int))
theorem cbX6_first : rp_Cb mX6_first 1 := ⟨(tg1 (List.mem_of_getElem? (i := 1) (by decide +kernel)) rfl), (tg3 (List.mem_of_getElem? (i := 97) rfl) rfl), ⟨by decide, by decide, by decide +kernel⟩, by decide +kernel⟩
theorem viX6_first : rp_Vi mX6_first := ⟨(tg3 (List.mem_of_getElem? (i := 95) (by decide +kernel)) rfl), (tg3 (List.mem_of_getElem? (i := 96) (by decide +kernel)) rfl)⟩
abbrev mX7_first : rp_MI := (yX7_first, cX7_first, 3, (some .int))
theorem cbX7_first : rp_Cb mX7_first 1 := ⟨(tg1 (List.mem_of_getElem? (i := 8) (by decide +kernel)) rfl), (tg5 (List.mem_of_getElem? (i := 127) rfl) rfl), ⟨by decide, by decide, by decide +kernel⟩, by decide +kernel⟩
theorem viX7_first : rp_Vi mX7_first := ⟨(tg5 (List.mem_of_getElem? (i := 125) (by decide +kernel)) rfl), (tg5 (List.mem_of_getElem? (i := 126) (by decide +kernel)) rfl)⟩
abbrev mX3_isRead : rp_MI := (yX3_isRead, cX3_isRead, 3, (some .boolean))
theorem cbX3_isRead : rp_Cb mX3_isRead 1 := ⟨(tg1 (List.mem_of_getElem? (i := 3) (by decide +kernel)) rfl), (tg3 (List.mem_of_getElem? (i := 105) rfl) rfl), ⟨by decide, by decide, by decide +kernel⟩, by decide +kernel⟩
theorem viX3_isRead : rp_Vi mX3_isRead := ⟨(tg3 (List.mem_of_getElem? (i := 104) (by decide +kernel)) rfl), (tgs (List.mem_of_getElem? (i := 45) (by decide +kernel)) rfl)⟩
abbrev mX6_dark : rp_MI := (yX6_dark, cX6_dark, 3, (some .int))
theorem cbX6_dark : rp_Cb mX6_dark 0 := ⟨(tg1 (List.mem_of_getElem? (i := 1) (by decide +kernel)) rfl), (tg3 (List.mem_of_getElem? (i := 101) rfl) rfl), ⟨by decide, by decide, by decide +kernel⟩, by decide +kernel⟩
theorem viX6_dark : rp_Vi mX6_dark := ⟨(tg3 (List.mem_of_getElem? (i := 99) (by decide +kernel)) rfl), (tg3 (List.mem_of_getElem? (i := 100) (by decide +kernel)) rfl)⟩
abbrev mX7_dark : rp_MI := (yX7_dark, cX7_dark, 1, (some .int))
theorem cbX7_dark : rp_Cb mX7_dark 0 := ⟨(tg1 (List.mem_of_getElem? (i := 8) (by decide +kernel)) rfl), (tg5 (List.mem_of_getElem? (i := 131) rfl) rfl), ⟨by decide, by decide, by decide +kernel⟩, by decide +kernel⟩
theorem viX7_dark : rp_Vi mX7_dark := ⟨(tg5 (List.mem_of_getElem? (i := 129) (by decide +kernel)) rfl), (tg5 (List.mem_of_getElem? (i := 130) (by decide +kernel)) rfl)⟩
abbrev mX0_beginAbove : rp_MI := (yX0_beginAbove, cX0_beginAbove, 2, none)
theorem cbX0_beginAbove : rp_Cb mX0_beginAbove 1 := ⟨(tg1 (List.mem_of_getElem? (i := 4) (by decide +kernel)) rfl), (tg3 (List.mem_of_getElem? (i := 113) rfl) rfl), ⟨by decide, by decide, by decide +kernel⟩, by decide +kernel⟩
theorem viX0_beginAbove : rp_Vi mX0_beginAbove := ⟨(tg3 (List.mem_of_getElem? (i := 112) (by decide +kernel)) rfl), (tgs (List.mem_of_getElem? (i := 46) (by decide +kernel)) rfl)⟩
abbrev mX3_lookersAt : rp_MI := (yX3_lookersAt, cX3_lookersAt, 5, (some .int))
theorem cbX3_lookersAt : rp_Cb mX3_lookersAt 2 := ⟨(tg1 (List.mem_of_getElem? (i := 3) (by decide +kernel)) rfl), (tg3 (List.mem_of_getElem? (i := 117) rfl) rfl), ⟨by decide, by decide, by decide +kernel⟩, by decide +kernel⟩
theorem viX3_lookersAt : rp_Vi mX3_lookersAt := ⟨(tg3 (List.mem_of_getElem? (i := 116) (by decide +kernel)) rfl), (tgs (List.mem_of_getElem? (i := 47) (by decide +kernel)) rfl)⟩
abbrev mX0_offer : rp_MI := (yX0_offer, cX0_offer, 3, none)
theorem cbX0_offer : rp_Cb mX0_offer 2 := ⟨(tg1 (List.mem_of_getElem? (i := 4) (by decide +kernel)) rfl), (tg3 (List.mem_of_getElem? (i := 121) rfl) rfl), ⟨by decide, by decide, by decide +kernel⟩, by decide +kernel⟩
theorem viX0_offer : rp_Vi mX0_offer := ⟨(tg3 (List.mem_of_getElem? (i := 120) (by decide +kernel)) rfl), (tgs (List.mem_of_getElem? (i := 48) (by decide +kernel)) rfl)⟩
abbrev mX0_answer : rp_MI := (yX0_answer, cX0_answer, 2, (some .int))
theorem cbX0_answer : rp_Cb mX0_answer 1 := ⟨(tg1 (List.mem_of_getElem? (i := 4) (by decide +kernel)) rfl), (tg3 (List.mem_of_getElem? (i := 125) rfl) rfl), ⟨by decide, by decide, by decide +kernel⟩, by decide +kernel⟩
theorem viX0_answer : rp_Vi mX0_answer := ⟨(tg3 (List.mem_of_getElem? (i := 124) (by decide +kernel)) rfl), (tgs (List.mem_of_getElem? (i := 49) (by decide +kernel)) rfl)⟩
abbrev mX6_peak : rp_MI := (yX6_peak, cX6_peak, 4, (some .int))
theorem cbX6_peak : rp_Cb mX6_peak 2 := ⟨(tg1 (List.mem_of_getElem? (i := 1) (by decide +kernel)) rfl), (tg3 (List.mem_of_getElem? (i := 109) rfl) rfl), ⟨by decide, by decide, by decide +kernel⟩, by decide +kernel⟩
theorem viX6_peak : rp_Vi mX6_peak := ⟨(tg3 (List.mem_of_getElem? (i := 107) (by decide +kernel)) rfl), (tg3 (List.mem_of_getElem? (i := 108) (by decide +kernel)) rfl)⟩
abbrev mX7_peak : rp_MI := (yX7_peak, cX7_peak, 8, (some .int))
theorem cbX7_peak : rp_Cb mX7_peak 2 := ⟨(tg1 (List.mem_of_getElem? (i := 8) (by decide +kernel)) rfl), (tg5 (List.mem_of_getElem? (i := 135) rfl) rfl), ⟨by decide, by decide, by decide +kernel⟩, by decide +kernel⟩
theorem viX7_peak : rp_Vi mX7_peak := ⟨(tg5 (List.mem_of_getElem? (i := 133) (by decide +kernel)) rfl), (tg5 (List.mem_of_getElem? (i := 134) (by decide +kernel)) rfl)⟩
abbrev mJ6_bitCount_0f7a4 : rp_MI := (yJ6_bitCount_0f7a4, cJ6_bitCount_0f7a4, 1, (some .int))
theorem cbJ6_bitCount_0f7a4 : rp_Cb mJ6_bitCount_0f7a4 1 := ⟨(tg1 (List.mem_of_getElem? (i := 15) (by decide +kernel)) rfl), (tg3 (List.mem_of_getElem? (i := 133) rfl) rfl), ⟨by decide, by decide, by decide +kernel⟩, by decide +kernel⟩
theorem stJ6_bitCount_0f7a4 : rp_St mJ6_bitCount_0f7a4 := (tg3 (List.mem_of_getElem? (i := 132) (by decide +kernel)) rfl)
abbrev mX6_when : rp_MI := (yX6_when, cX6_when, 4, (some .int))
theorem cbX6_when : rp_Cb mX6_when 2 := ⟨(tg1 (List.mem_of_getElem? (i := 1) (by decide +kernel)) rfl), (tg3 (List.mem_of_getElem? (i := 129) rfl) rfl), ⟨by decide, by decide, by decide +kernel⟩, by decide +kernel⟩
theorem viX6_when : rp_Vi mX6_when := ⟨(tg3 (List.mem_of_getElem? (i := 127) (by decide +kernel)) rfl), (tg3 (List.mem_of_getElem? (i := 128) (by decide +kernel)) rfl)⟩
abbrev mX7_copies : rp_MI := (yX7_copies, cX7_copies, 4, none)
theorem cbX7_copies : rp_Cb mX7_copies 2 := ⟨(tg1 (List.mem_of_getElem? (i := 8) (by decide +kernel)) rfl), (tg5 (List.mem_of_getElem? (i := 143) rfl) rfl), ⟨by decide, by decide, by decide +kernel⟩, by decide +kernel⟩
theorem viX7_copies : rp_Vi mX7_copies := ⟨(tg5 (List.mem_of_getElem? (i := 142) (by decide +kernel)) rfl), (tgs (List.mem_of_getElem? (i := 91) (by decide +kernel)) rfl)⟩
abbrev mX7_bitsOf : rp_MI := (yX7_bitsOf, cX7_bitsOf, 3, (some .int))
theorem cbX7_bitsOf : rp_Cb mX7_bitsOf 1 := ⟨(tg1 (List.mem_of_getElem? (i := 8) (by decide +kernel)) rfl), (tg5 (List.mem_of_getElem? (i := 146) rfl) rfl), ⟨by decide, by decide, by decide +kernel⟩, by decide +kernel⟩
theorem stX7_bitsOf : rp_St mX7_bitsOf := (tg5 (List.mem_of_getElem? (i := 145) (by decide +kernel)) rfl)
abbrev mX7_when : rp_MI := (yX7_when, cX7_when, 7, (some .int))
theorem cbX7_when : rp_Cb mX7_when 2 := ⟨(tg1 (List.mem_of_getElem? (i := 8) (by decide +kernel)) rfl), (tg5 (List.mem_of_getElem? (i := 139) rfl) rfl), ⟨by decide, by decide, by decide +kernel⟩, by decide +kernel⟩
theorem viX7_when : rp_Vi mX7_when := ⟨(tg5 (List.mem_of_getElem? (i := 137) (by decide +kernel)) rfl), (tg5 (List.mem_of_getElem? (i := 138) (by decide +kernel)) rfl)⟩
abbrev mX6_stand : rp_MI := (yX6_stand, cX6_stand, 4, (some .int))
theorem cbX6_stand : rp_Cb mX6_stand 2 := ⟨(tg1 (List.mem_of_getElem? (i := 1) (by decide +kernel)) rfl), (tg3 (List.mem_of_getElem? (i := 140) rfl) rfl), ⟨by decide, by decide, by decide +kernel⟩, by decide +kernel⟩
theorem viX6_stand : rp_Vi mX6_stand := ⟨(tg3 (List.mem_of_getElem? (i := 138) (by decide +kernel)) rfl), (tg3 (List.mem_of_getElem? (i := 139) (by decide +kernel)) rfl)⟩
abbrev mX7_stand : rp_MI := (yX7_stand, cX7_stand, 7, (some .int))
theorem cbX7_stand : rp_Cb mX7_stand 2 := ⟨(tg1 (List.mem_of_getElem? (i := 8) (by decide +kernel)) rfl), (tg5 (List.mem_of_getElem? (i := 150) rfl) rfl), ⟨by decide, by decide, by decide +kernel⟩, by decide +kernel⟩
theorem viX7_stand : rp_Vi mX7_stand := ⟨(tg5 (List.mem_of_getElem? (i := 148) (by decide +kernel)) rfl), (tg5 (List.mem_of_getElem? (i := 149) (by decide +kernel)) rfl)⟩
abbrev mX6_minutesIfSwapped : rp_MI := (yX6_minutesIfSwapped, cX6_minutesIfSwapped, 3, (some .int))
theorem cbX6_minutesIfSwapped : rp_Cb mX6_minutesIfSwapped 2 := ⟨(tg1 (List.mem_of_getElem? (i := 1) (by decide +kernel)) rfl), (tg3 (List.mem_of_getElem? (i := 148) rfl) rfl), ⟨by decide, by decide, by decide +kernel⟩, by decide +kernel⟩
theorem viX6_minutesIfSwapped : rp_Vi mX6_minutesIfSwapped := ⟨(tg3 (List.mem_of_getElem? (i := 147) (by decide +kernel)) rfl), (tgs (List.mem_of_getElem? (i := 50) (by decide +kernel)) rfl)⟩
abbrev mX6_swap : rp_MI := (yX6_swap, cX6_swap, 4, (some .int))
theorem cbX6_swap : rp_Cb mX6_swap 1 := ⟨(tg1 (List.mem_of_getElem? (i := 1) (by decide +kernel)) rfl), (tg3 (List.mem_of_getElem? (i := 144) rfl) rfl), ⟨by decide, by decide, by decide +kernel⟩, by decide +kernel⟩
theorem viX6_swap : rp_Vi mX6_swap := ⟨(tg3 (List.mem_of_getElem? (i := 142) (by decide +kernel)) rfl), (tg3 (List.mem_of_getElem? (i := 143) (by decide +kernel)) rfl)⟩
abbrev mX7_swap : rp_MI := (yX7_swap, cX7_swap, 6, (some .int))
theorem cbX7_swap : rp_Cb mX7_swap 1 := ⟨(tg1 (List.mem_of_getElem? (i := 8) (by decide +kernel)) rfl), (tg5 (List.mem_of_getElem? (i := 154) rfl) rfl), ⟨by decide, by decide, by decide +kernel⟩, by decide +kernel⟩
theorem viX7_swap : rp_Vi mX7_swap := ⟨(tg5 (List.mem_of_getElem? (i := 152) (by decide +kernel)) rfl), (tg5 (List.mem_of_getElem? (i := 153) (by decide +kernel)) rfl)⟩
abbrev mX3_putOut : rp_MI := (yX3_putOut, cX3_putOut, 2, none)
theorem cbX3_putOut : rp_Cb mX3_putOut 1 := ⟨(tg1 (List.mem_of_getElem? (i := 3) (by decide +kernel)) rfl), (tg3 (List.mem_of_getElem? (i := 156) rfl) rfl), ⟨by decide, by decide, by decide +kernel⟩, by decide +kernel⟩
theorem viX3_putOut : rp_Vi mX3_putOut := ⟨(tg3 (List.mem_of_getElem? (i := 155) (by decide +kernel)) rfl), (tgs (List.mem_of_getElem? (i := 51) (by decide +kernel)) rfl)⟩
abbrev mX6_lose : rp_MI := (yX6_lose, cX6_lose, 3, (some .int))
theorem cbX6_lose : rp_Cb mX6_lose 1 := ⟨(tg1 (List.mem_of_getElem? (i := 1) (by decide +kernel)) rfl), (tg3 (List.mem_of_getElem? (i := 152) rfl) rfl), ⟨by decide, by decide, by decide +kernel⟩, by decide +kernel⟩
theorem viX6_lose : rp_Vi mX6_lose := ⟨(tg3 (List.mem_of_getElem? (i := 150) (by decide +kernel)) rfl), (tg3 (List.mem_of_getElem? (i := 151) (by decide +kernel)) rfl)⟩
abbrev mX7_lose : rp_MI := (yX7_lose, cX7_lose, 5, (some .int))
theorem cbX7_lose : rp_Cb mX7_lose 1 := ⟨(tg1 (List.mem_of_getElem? (i := 8) (by decide +kernel)) rfl), (tg5 (List.mem_of_getElem? (i := 158) rfl) rfl), ⟨by decide, by decide, by decide +kernel⟩, by decide +kernel⟩
theorem viX7_lose : rp_Vi mX7_lose := ⟨(tg5 (List.mem_of_getElem? (i := 156) (by decide +kernel)) rfl), (tg5 (List.mem_of_getElem? (i := 157) (by decide +kernel)) rfl)⟩
abbrev mX6_need : rp_MI := (yX6_need, cX6_need, 4, (some .int))
theorem cbX6_need : rp_Cb mX6_need 2 := ⟨(tg1 (List.mem_of_getElem? (i := 1) (by decide +kernel)) rfl), (tg3 (List.mem_of_getElem? (i := 160) rfl) rfl), ⟨by decide, by decide, by decide +kernel⟩, by decide +kernel⟩
theorem viX6_need : rp_Vi mX6_need := ⟨(tg3 (List.mem_of_getElem? (i := 158) (by decide +kernel)) rfl), (tg3 (List.mem_of_getElem? (i := 159) (by decide +kernel)) rfl)⟩
abbrev mX7_need : rp_MI := (yX7_need, cX7_need, 4, (some .int))
theorem cbX7_need : rp_Cb mX7_need 2 := ⟨(tg1 (List.mem_of_getElem? (i := 8) (by decide +kernel)) rfl), (tg5 (List.mem_of_getElem? (i := 162) rfl) rfl), ⟨by decide, by decide, by decide +kernel⟩, by decide +kernel⟩
theorem viX7_need : rp_Vi mX7_need := ⟨(tg5 (List.mem_of_getElem? (i := 160) (by decide +kernel)) rfl), (tg5 (List.mem_of_getElem? (i := 161) (by decide +kernel)) rfl)⟩
abbrev mX6_dry : rp_MI := (yX6_dry, cX6_dry, 3, (some .int))
theorem cbX6_dry : rp_Cb mX6_dry 1 := ⟨(tg1 (List.mem_of_getElem? (i := 1) (by decide +kernel)) rfl), (tg3 (List.mem_of_getElem? (i := 165) rfl) rfl), ⟨by decide, by decide, by decide +kernel⟩, by decide +kernel⟩
theorem viX6_dry : rp_Vi mX6_dry := ⟨(tg3 (List.mem_of_getElem? (i := 163) (by decide +kernel)) rfl), (tg3 (List.mem_of_getElem? (i := 164) (by decide +kernel)) rfl)⟩
abbrev mX7_dry : rp_MI := (yX7_dry, cX7_dry, 3, (some .int))
theorem cbX7_dry : rp_Cb mX7_dry 1 := ⟨(tg1 (List.mem_of_getElem? (i := 8) (by decide +kernel)) rfl), (tg5 (List.mem_of_getElem? (i := 166) rfl) rfl), ⟨by decide, by decide, by decide +kernel⟩, by decide +kernel⟩
theorem viX7_dry : rp_Vi mX7_dry := ⟨(tg5 (List.mem_of_getElem? (i := 164) (by decide +kernel)) rfl), (tg5 (List.mem_of_getElem? (i := 165) (by decide +kernel)) rfl)⟩
abbrev mX3_minutesByAll : rp_MI := (yX3_minutesByAll, cX3_minutesByAll, 4, (some .int))
theorem cbX3_minutesByAll : rp_Cb mX3_minutesByAll 1 := ⟨(tg1 (List.mem_of_getElem? (i := 3) (by decide +kernel)) rfl), (tg3 (List.mem_of_getElem? (i := 173) rfl) rfl), ⟨by decide, by decide, by decide +kernel⟩, by decide +kernel⟩
theorem viX3_minutesByAll : rp_Vi mX3_minutesByAll := ⟨(tg3 (List.mem_of_getElem? (i := 172) (by decide +kernel)) rfl), (tgs (List.mem_of_getElem? (i := 52) (by decide +kernel)) rfl)⟩
abbrev mX6_kind : rp_MI := (yX6_kind, cX6_kind, 4, (some .int))
theorem cbX6_kind : rp_Cb mX6_kind 2 := ⟨(tg1 (List.mem_of_getElem? (i := 1) (by decide +kernel)) rfl), (tg3 (List.mem_of_getElem? (i := 169) rfl) rfl), ⟨by decide, by decide, by decide +kernel⟩, by decide +kernel⟩
theorem viX6_kind : rp_Vi mX6_kind := ⟨(tg3 (List.mem_of_getElem? (i := 167) (by decide +kernel)) rfl), (tg3 (List.mem_of_getElem? (i := 168) (by decide +kernel)) rfl)⟩
abbrev mX7_kind : rp_MI := (yX7_kind, cX7_kind, 8, (some .int))
theorem cbX7_kind : rp_Cb mX7_kind 2 := ⟨(tg1 (List.mem_of_getElem? (i := 8) (by decide +kernel)) rfl), (tg5 (List.mem_of_getElem? (i := 170) rfl) rfl), ⟨by decide, by decide, by decide +kernel⟩, by decide +kernel⟩
theorem viX7_kind : rp_Vi mX7_kind := ⟨(tg5 (List.mem_of_getElem? (i := 168) (by decide +kernel)) rfl), (tg5 (List.mem_of_getElem? (i := 169) (by decide +kernel)) rfl)⟩
abbrev mX6_greatestDivisor : rp_MI := (yX6_greatestDivisor, cX6_greatestDivisor, 11, (some .long))
theorem cbX6_greatestDivisor : rp_Cb mX6_greatestDivisor 2 := ⟨(tg1 (List.mem_of_getElem? (i := 1) (by decide +kernel)) rfl), (tg3 (List.mem_of_getElem? (i := 185) rfl) rfl), ⟨by decide, by decide, by decide +kernel⟩, by decide +kernel⟩
theorem stX6_greatestDivisor : rp_St mX6_greatestDivisor := (tg3 (List.mem_of_getElem? (i := 184) (by decide +kernel)) rfl)
abbrev mX6_partOf : rp_MI := (yX6_partOf, cX6_partOf, 7, (some .long))
theorem cbX6_partOf : rp_Cb mX6_partOf 3 := ⟨(tg1 (List.mem_of_getElem? (i := 1) (by decide +kernel)) rfl), (tg3 (List.mem_of_getElem? (i := 182) rfl) rfl), ⟨by decide, by decide, by decide +kernel⟩, by decide +kernel⟩
theorem stX6_partOf : rp_St mX6_partOf := (tg3 (List.mem_of_getElem? (i := 181) (by decide +kernel)) rfl)
abbrev mX6_power : rp_MI := (yX6_power, cX6_power, 6, (some .long))
theorem cbX6_power : rp_Cb mX6_power 2 := ⟨(tg1 (List.mem_of_getElem? (i := 1) (by decide +kernel)) rfl), (tg3 (List.mem_of_getElem? (i := 189) rfl) rfl), ⟨by decide, by decide, by decide +kernel⟩, by decide +kernel⟩
theorem stX6_power : rp_St mX6_power := (tg3 (List.mem_of_getElem? (i := 188) (by decide +kernel)) rfl)
abbrev mX6_luck : rp_MI := (yX6_luck, cX6_luck, 6, (some .long))
theorem cbX6_luck : rp_Cb mX6_luck 4 := ⟨(tg1 (List.mem_of_getElem? (i := 1) (by decide +kernel)) rfl), (tg3 (List.mem_of_getElem? (i := 177) rfl) rfl), ⟨by decide, by decide, by decide +kernel⟩, by decide +kernel⟩
theorem viX6_luck : rp_Vi mX6_luck := ⟨(tg3 (List.mem_of_getElem? (i := 175) (by decide +kernel)) rfl), (tg3 (List.mem_of_getElem? (i := 176) (by decide +kernel)) rfl)⟩
abbrev mX7_lowest : rp_MI := (yX7_lowest, cX7_lowest, 11, (some .long))
theorem cbX7_lowest : rp_Cb mX7_lowest 3 := ⟨(tg1 (List.mem_of_getElem? (i := 8) (by decide +kernel)) rfl), (tg5 (List.mem_of_getElem? (i := 182) rfl) rfl), ⟨by decide, by decide, by decide +kernel⟩, by decide +kernel⟩
theorem stX7_lowest : rp_St mX7_lowest := (tg5 (List.mem_of_getElem? (i := 181) (by decide +kernel)) rfl)
abbrev mX7_byDamp : rp_MI := (yX7_byDamp, cX7_byDamp, 13, (some .long))
theorem cbX7_byDamp : rp_Cb mX7_byDamp 4 := ⟨(tg1 (List.mem_of_getElem? (i := 8) (by decide +kernel)) rfl), (tg5 (List.mem_of_getElem? (i := 179) rfl) rfl), ⟨by decide, by decide, by decide +kernel⟩, by decide +kernel⟩
theorem viX7_byDamp : rp_Vi mX7_byDamp := ⟨(tg5 (List.mem_of_getElem? (i := 178) (by decide +kernel)) rfl), (tgs (List.mem_of_getElem? (i := 92) (by decide +kernel)) rfl)⟩
abbrev mX7_luck : rp_MI := (yX7_luck, cX7_luck, 5, (some .long))
theorem cbX7_luck : rp_Cb mX7_luck 4 := ⟨(tg1 (List.mem_of_getElem? (i := 8) (by decide +kernel)) rfl), (tg5 (List.mem_of_getElem? (i := 174) rfl) rfl), ⟨by decide, by decide, by decide +kernel⟩, by decide +kernel⟩
theorem viX7_luck : rp_Vi mX7_luck := ⟨(tg5 (List.mem_of_getElem? (i := 172) (by decide +kernel)) rfl), (tg5 (List.mem_of_getElem? (i := 173) (by decide +kernel)) rfl)⟩
abbrev mX3_choicesOf : rp_MI := (yX3_choicesOf, cX3_choicesOf, 5, (some .int))
theorem cbX3_choicesOf : rp_Cb mX3_choicesOf 2 := ⟨(tg1 (List.mem_of_getElem? (i := 3) (by decide +kernel)) rfl), (tg3 (List.mem_of_getElem? (i := 198) rfl) rfl), ⟨by decide, by decide, by decide +kernel⟩, by decide +kernel⟩
theorem viX3_choicesOf : rp_Vi mX3_choicesOf := ⟨(tg3 (List.mem_of_getElem? (i := 197) (by decide +kernel)) rfl), (tgs (List.mem_of_getElem? (i := 53) (by decide +kernel)) rfl)⟩
abbrev mX6_mean : rp_MI := (yX6_mean, cX6_mean, 10, (some .long))
theorem cbX6_mean : rp_Cb mX6_mean 2 := ⟨(tg1 (List.mem_of_getElem? (i := 1) (by decide +kernel)) rfl), (tg3 (List.mem_of_getElem? (i := 194) rfl) rfl), ⟨by decide, by decide, by decide +kernel⟩, by decide +kernel⟩
theorem viX6_mean : rp_Vi mX6_mean := ⟨(tg3 (List.mem_of_getElem? (i := 192) (by decide +kernel)) rfl), (tg3 (List.mem_of_getElem? (i := 193) (by decide +kernel)) rfl)⟩
abbrev mX7_mean : rp_MI := (yX7_mean, cX7_mean, 3, (some .long))
theorem cbX7_mean : rp_Cb mX7_mean 2 := ⟨(tg1 (List.mem_of_getElem? (i := 8) (by decide +kernel)) rfl), (tg5 (List.mem_of_getElem? (i := 187) rfl) rfl), ⟨by decide, by decide, by decide +kernel⟩, by decide +kernel⟩
theorem viX7_mean : rp_Vi mX7_mean := ⟨(tg5 (List.mem_of_getElem? (i := 185) (by decide +kernel)) rfl), (tg5 (List.mem_of_getElem? (i := 186) (by decide +kernel)) rfl)⟩
abbrev mX4_add : rp_MI := (yX4_add, cX4_add, 3, none)
theorem cbX4_add : rp_Cb mX4_add 2 := ⟨(tg1 (List.mem_of_getElem? (i := 6) (by decide +kernel)) rfl), (tg3 (List.mem_of_getElem? (i := 206) rfl) rfl), ⟨by decide, by decide, by decide +kernel⟩, by decide +kernel⟩
theorem viX4_add : rp_Vi mX4_add := ⟨(tg3 (List.mem_of_getElem? (i := 205) (by decide +kernel)) rfl), (tgs (List.mem_of_getElem? (i := 54) (by decide +kernel)) rfl)⟩
abbrev mX6_see : rp_MI := (yX6_see, cX6_see, 3, (some .int))
theorem cbX6_see : rp_Cb mX6_see 2 := ⟨(tg1 (List.mem_of_getElem? (i := 1) (by decide +kernel)) rfl), (tg3 (List.mem_of_getElem? (i := 202) rfl) rfl), ⟨by decide, by decide, by decide +kernel⟩, by decide +kernel⟩
theorem viX6_see : rp_Vi mX6_see := ⟨(tg3 (List.mem_of_getElem? (i := 200) (by decide +kernel)) rfl), (tg3 (List.mem_of_getElem? (i := 201) (by decide +kernel)) rfl)⟩
abbrev mX7_see : rp_MI := (yX7_see, cX7_see, 3, (some .int))
theorem cbX7_see : rp_Cb mX7_see 2 := ⟨(tg1 (List.mem_of_getElem? (i := 8) (by decide +kernel)) rfl), (tg5 (List.mem_of_getElem? (i := 191) rfl) rfl), ⟨by decide, by decide, by decide +kernel⟩, by decide +kernel⟩
theorem viX7_see : rp_Vi mX7_see := ⟨(tg5 (List.mem_of_getElem? (i := 189) (by decide +kernel)) rfl), (tg5 (List.mem_of_getElem? (i := 190) (by decide +kernel)) rfl)⟩
abbrev mX6_forget : rp_MI := (yX6_forget, cX6_forget, 3, (some .int))
theorem cbX6_forget : rp_Cb mX6_forget 1 := ⟨(tg1 (List.mem_of_getElem? (i := 1) (by decide +kernel)) rfl), (tg3 (List.mem_of_getElem? (i := 210) rfl) rfl), ⟨by decide, by decide, by decide +kernel⟩, by decide +kernel⟩
theorem viX6_forget : rp_Vi mX6_forget := ⟨(tg3 (List.mem_of_getElem? (i := 208) (by decide +kernel)) rfl), (tg3 (List.mem_of_getElem? (i := 209) (by decide +kernel)) rfl)⟩
abbrev mX7_forget : rp_MI := (yX7_forget, cX7_forget, 3, (some .int))
theorem cbX7_forget : rp_Cb mX7_forget 1 := ⟨(tg1 (List.mem_of_getElem? (i := 8) (by decide +kernel)) rfl), (tg5 (List.mem_of_getElem? (i := 195) rfl) rfl), ⟨by decide, by decide, by decide +kernel⟩, by decide +kernel⟩
theorem viX7_forget : rp_Vi mX7_forget := ⟨(tg5 (List.mem_of_getElem? (i := 193) (by decide +kernel)) rfl), (tg5 (List.mem_of_getElem? (i := 194) (by decide +kernel)) rfl)⟩
abbrev mX4_agreeWith : rp_MI := (yX4_agreeWith, cX4_agreeWith, 3, (some .boolean))
theorem cbX4_agreeWith : rp_Cb mX4_agreeWith 1 := ⟨(tg1 (List.mem_of_getElem? (i := 6) (by decide +kernel)) rfl), (tg3 (List.mem_of_getElem? (i := 218) rfl) rfl), ⟨by decide, by decide, by decide +kernel⟩, by decide +kernel⟩
theorem viX4_agreeWith : rp_Vi mX4_agreeWith := ⟨(tg3 (List.mem_of_getElem? (i := 217) (by decide +kernel)) rfl), (tgs (List.mem_of_getElem? (i := 55) (by decide +kernel)) rfl)⟩
abbrev mX6_winds : rp_MI := (yX6_winds, cX6_winds, 4, (some .int))
theorem cbX6_winds : rp_Cb mX6_winds 0 := ⟨(tg1 (List.mem_of_getElem? (i := 1) (by decide +kernel)) rfl), (tg3 (List.mem_of_getElem? (i := 214) rfl) rfl), ⟨by decide, by decide, by decide +kernel⟩, by decide +kernel⟩
theorem viX6_winds : rp_Vi mX6_winds := ⟨(tg3 (List.mem_of_getElem? (i := 212) (by decide +kernel)) rfl), (tg3 (List.mem_of_getElem? (i := 213) (by decide +kernel)) rfl)⟩
abbrev mX7_isAsSeen : rp_MI := (yX7_isAsSeen, cX7_isAsSeen, 4, (some .boolean))
theorem cbX7_isAsSeen : rp_Cb mX7_isAsSeen 1 := ⟨(tg1 (List.mem_of_getElem? (i := 8) (by decide +kernel)) rfl), (tg5 (List.mem_of_getElem? (i := 207) rfl) rfl), ⟨by decide, by decide, by decide +kernel⟩, by decide +kernel⟩
theorem viX7_isAsSeen : rp_Vi mX7_isAsSeen := ⟨(tg5 (List.mem_of_getElem? (i := 206) (by decide +kernel)) rfl), (tgs (List.mem_of_getElem? (i := 94) (by decide +kernel)) rfl)⟩
abbrev mX7_windsNow : rp_MI := (yX7_windsNow, cX7_windsNow, 4, (some .int))
theorem cbX7_windsNow : rp_Cb mX7_windsNow 0 := ⟨(tg1 (List.mem_of_getElem? (i := 8) (by decide +kernel)) rfl), (tg5 (List.mem_of_getElem? (i := 203) rfl) rfl), ⟨by decide, by decide, by decide +kernel⟩, by decide +kernel⟩
theorem viX7_windsNow : rp_Vi mX7_windsNow := ⟨(tg5 (List.mem_of_getElem? (i := 202) (by decide +kernel)) rfl), (tgs (List.mem_of_getElem? (i := 93) (by decide +kernel)) rfl)⟩
abbrev mX7_winds : rp_MI := (yX7_winds, cX7_winds, 1, (some .int))
theorem cbX7_winds : rp_Cb mX7_winds 0 := ⟨(tg1 (List.mem_of_getElem? (i := 8) (by decide +kernel)) rfl), (tg5 (List.mem_of_getElem? (i := 199) rfl) rfl), ⟨by decide, by decide, by decide +kernel⟩, by decide +kernel⟩
theorem viX7_winds : rp_Vi mX7_winds := ⟨(tg5 (List.mem_of_getElem? (i := 197) (by decide +kernel)) rfl), (tg5 (List.mem_of_getElem? (i := 198) (by decide +kernel)) rfl)⟩
abbrev mX6_valuesAsSeen : rp_MI := (yX6_valuesAsSeen, cX6_valuesAsSeen, 6, (some .int))
theorem cbX6_valuesAsSeen : rp_Cb mX6_valuesAsSeen 2 := ⟨(tg1 (List.mem_of_getElem? (i := 1) (by decide +kernel)) rfl), (tg3 (List.mem_of_getElem? (i := 228) rfl) rfl), ⟨by decide, by decide, by decide +kernel⟩, by decide +kernel⟩
theorem viX6_valuesAsSeen : rp_Vi mX6_valuesAsSeen := ⟨(tg3 (List.mem_of_getElem? (i := 227) (by decide +kernel)) rfl), (tgs (List.mem_of_getElem? (i := 56) (by decide +kernel)) rfl)⟩
abbrev mX6_froms : rp_MI := (yX6_froms, cX6_froms, 2, (some .int))
theorem cbX6_froms : rp_Cb mX6_froms 1 := ⟨(tg1 (List.mem_of_getElem? (i := 1) (by decide +kernel)) rfl), (tg3 (List.mem_of_getElem? (i := 224) rfl) rfl), ⟨by decide, by decide, by decide +kernel⟩, by decide +kernel⟩
theorem viX6_froms : rp_Vi mX6_froms := ⟨(tg3 (List.mem_of_getElem? (i := 222) (by decide +kernel)) rfl), (tg3 (List.mem_of_getElem? (i := 223) (by decide +kernel)) rfl)⟩
abbrev mX7_froms : rp_MI := (yX7_froms, cX7_froms, 4, (some .int))
theorem cbX7_froms : rp_Cb mX7_froms 1 := ⟨(tg1 (List.mem_of_getElem? (i := 8) (by decide +kernel)) rfl), (tg5 (List.mem_of_getElem? (i := 211) rfl) rfl), ⟨by decide, by decide, by decide +kernel⟩, by decide +kernel⟩
theorem viX7_froms : rp_Vi mX7_froms := ⟨(tg5 (List.mem_of_getElem? (i := 209) (by decide +kernel)) rfl), (tg5 (List.mem_of_getElem? (i := 210) (by decide +kernel)) rfl)⟩
abbrev mX6_kinds : rp_MI := (yX6_kinds, cX6_kinds, 2, (some .int))
theorem cbX6_kinds : rp_Cb mX6_kinds 1 := ⟨(tg1 (List.mem_of_getElem? (i := 1) (by decide +kernel)) rfl), (tg3 (List.mem_of_getElem? (i := 232) rfl) rfl), ⟨by decide, by decide, by decide +kernel⟩, by decide +kernel⟩
theorem viX6_kinds : rp_Vi mX6_kinds := ⟨(tg3 (List.mem_of_getElem? (i := 230) (by decide +kernel)) rfl), (tg3 (List.mem_of_getElem? (i := 231) (by decide +kernel)) rfl)⟩
abbrev mX7_kinds : rp_MI := (yX7_kinds, cX7_kinds, 4, (some .int))
theorem cbX7_kinds : rp_Cb mX7_kinds 1 := ⟨(tg1 (List.mem_of_getElem? (i := 8) (by decide +kernel)) rfl), (tg5 (List.mem_of_getElem? (i := 215) rfl) rfl), ⟨by decide, by decide, by decide +kernel⟩, by decide +kernel⟩
theorem viX7_kinds : rp_Vi mX7_kinds := ⟨(tg5 (List.mem_of_getElem? (i := 213) (by decide +kernel)) rfl), (tg5 (List.mem_of_getElem? (i := 214) (by decide +kernel)) rfl)⟩
abbrev mX6_windsThatDrop : rp_MI := (yX6_windsThatDrop, cX6_windsThatDrop, 6, (some .int))
theorem cbX6_windsThatDrop : rp_Cb mX6_windsThatDrop 4 := ⟨(tg1 (List.mem_of_getElem? (i := 1) (by decide +kernel)) rfl), (tg4 (List.mem_of_getElem? (i := 4) rfl) rfl), ⟨by decide, by decide, by decide +kernel⟩, by decide +kernel⟩
theorem stX6_windsThatDrop : rp_St mX6_windsThatDrop := (tg4 (List.mem_of_getElem? (i := 3) (by decide +kernel)) rfl)
abbrev mX6_windsLeftAtWorst : rp_MI := (yX6_windsLeftAtWorst, cX6_windsLeftAtWorst, 5, (some .int))
theorem cbX6_windsLeftAtWorst : rp_Cb mX6_windsLeftAtWorst 2 := ⟨(tg1 (List.mem_of_getElem? (i := 1) (by decide +kernel)) rfl), (tg4 (List.mem_of_getElem? (i := 1) rfl) rfl), ⟨by decide, by decide, by decide +kernel⟩, by decide +kernel⟩
theorem viX6_windsLeftAtWorst : rp_Vi mX6_windsLeftAtWorst := ⟨(tg4 (List.mem_of_getElem? (i := 0) (by decide +kernel)) rfl), (tgs (List.mem_of_getElem? (i := 57) (by decide +kernel)) rfl)⟩
abbrev mX6_ask : rp_MI := (yX6_ask, cX6_ask, 5, (some .int))
theorem cbX6_ask : rp_Cb mX6_ask 1 := ⟨(tg1 (List.mem_of_getElem? (i := 1) (by decide +kernel)) rfl), (tg3 (List.mem_of_getElem? (i := 236) rfl) rfl), ⟨by decide, by decide, by decide +kernel⟩, by decide +kernel⟩
theorem viX6_ask : rp_Vi mX6_ask := ⟨(tg3 (List.mem_of_getElem? (i := 234) (by decide +kernel)) rfl), (tg3 (List.mem_of_getElem? (i := 235) (by decide +kernel)) rfl)⟩
abbrev mX7_ask : rp_MI := (yX7_ask, cX7_ask, 10, (some .int))
theorem cbX7_ask : rp_Cb mX7_ask 1 := ⟨(tg1 (List.mem_of_getElem? (i := 8) (by decide +kernel)) rfl), (tg5 (List.mem_of_getElem? (i := 219) rfl) rfl), ⟨by decide, by decide, by decide +kernel⟩, by decide +kernel⟩
theorem viX7_ask : rp_Vi mX7_ask := ⟨(tg5 (List.mem_of_getElem? (i := 217) (by decide +kernel)) rfl), (tg5 (List.mem_of_getElem? (i := 218) (by decide +kernel)) rfl)⟩
abbrev mX6_drift : rp_MI := (yX6_drift, cX6_drift, 8, (some .int))
theorem cbX6_drift : rp_Cb mX6_drift 3 := ⟨(tg1 (List.mem_of_getElem? (i := 1) (by decide +kernel)) rfl), (tg4 (List.mem_of_getElem? (i := 8) rfl) rfl), ⟨by decide, by decide, by decide +kernel⟩, by decide +kernel⟩
theorem viX6_drift : rp_Vi mX6_drift := ⟨(tg4 (List.mem_of_getElem? (i := 6) (by decide +kernel)) rfl), (tg4 (List.mem_of_getElem? (i := 7) (by decide +kernel)) rfl)⟩
abbrev mX7_drift : rp_MI := (yX7_drift, cX7_drift, 9, (some .int))
theorem cbX7_drift : rp_Cb mX7_drift 3 := ⟨(tg1 (List.mem_of_getElem? (i := 8) (by decide +kernel)) rfl), (tg5 (List.mem_of_getElem? (i := 223) rfl) rfl), ⟨by decide, by decide, by decide +kernel⟩, by decide +kernel⟩
theorem viX7_drift : rp_Vi mX7_drift := ⟨(tg5 (List.mem_of_getElem? (i := 221) (by decide +kernel)) rfl), (tg5 (List.mem_of_getElem? (i := 222) (by decide +kernel)) rfl)⟩
abbrev mX6_imageOf : rp_MI := (yX6_imageOf, cX6_imageOf, 2, (some (.object "RocketPrint$Night")))
theorem cbX6_imageOf : rp_Cb mX6_imageOf 1 := ⟨(tg1 (List.mem_of_getElem? (i := 1) (by decide +kernel)) rfl), (tg4 (List.mem_of_getElem? (i := 17) rfl) rfl), ⟨by decide, by decide, by decide +kernel⟩, by decide +kernel⟩
theorem viX6_imageOf : rp_Vi mX6_imageOf := ⟨(tg4 (List.mem_of_getElem? (i := 16) (by decide +kernel)) rfl), (tgs (List.mem_of_getElem? (i := 58) (by decide +kernel)) rfl)⟩
abbrev mX6_keep : rp_MI := (yX6_keep, cX6_keep, 3, (some .int))
theorem cbX6_keep : rp_Cb mX6_keep 1 := ⟨(tg1 (List.mem_of_getElem? (i := 1) (by decide +kernel)) rfl), (tg4 (List.mem_of_getElem? (i := 13) rfl) rfl), ⟨by decide, by decide, by decide +kernel⟩, by decide +kernel⟩
theorem viX6_keep : rp_Vi mX6_keep := ⟨(tg4 (List.mem_of_getElem? (i := 11) (by decide +kernel)) rfl), (tg4 (List.mem_of_getElem? (i := 12) (by decide +kernel)) rfl)⟩
abbrev mX7_keep : rp_MI := (yX7_keep, cX7_keep, 3, (some .int))
theorem cbX7_keep : rp_Cb mX7_keep 1 := ⟨(tg1 (List.mem_of_getElem? (i := 8) (by decide +kernel)) rfl), (tg5 (List.mem_of_getElem? (i := 229) rfl) rfl), ⟨by decide, by decide, by decide +kernel⟩, by decide +kernel⟩
theorem viX7_keep : rp_Vi mX7_keep := ⟨(tg5 (List.mem_of_getElem? (i := 227) (by decide +kernel)) rfl), (tg5 (List.mem_of_getElem? (i := 228) (by decide +kernel)) rfl)⟩
abbrev mX6_back : rp_MI := (yX6_back, cX6_back, 2, (some .int))
theorem cbX6_back : rp_Cb mX6_back 1 := ⟨(tg1 (List.mem_of_getElem? (i := 1) (by decide +kernel)) rfl), (tg4 (List.mem_of_getElem? (i := 21) rfl) rfl), ⟨by decide, by decide, by decide +kernel⟩, by decide +kernel⟩
theorem viX6_back : rp_Vi mX6_back := ⟨(tg4 (List.mem_of_getElem? (i := 19) (by decide +kernel)) rfl), (tg4 (List.mem_of_getElem? (i := 20) (by decide +kernel)) rfl)⟩
abbrev mX7_back : rp_MI := (yX7_back, cX7_back, 2, (some .int))
theorem cbX7_back : rp_Cb mX7_back 1 := ⟨(tg1 (List.mem_of_getElem? (i := 8) (by decide +kernel)) rfl), (tg5 (List.mem_of_getElem? (i := 233) rfl) rfl), ⟨by decide, by decide, by decide +kernel⟩, by decide +kernel⟩
theorem viX7_back : rp_Vi mX7_back := ⟨(tg5 (List.mem_of_getElem? (i := 231) (by decide +kernel)) rfl), (tg5 (List.mem_of_getElem? (i := 232) (by decide +kernel)) rfl)⟩
abbrev mX2_renew : rp_MI := (yX2_renew, cX2_renew, 5, none)
theorem cbX2_renew : rp_Cb mX2_renew 3 := ⟨(tg1 (List.mem_of_getElem? (i := 7) (by decide +kernel)) rfl), (tg4 (List.mem_of_getElem? (i := 29) rfl) rfl), ⟨by decide, by decide, by decide +kernel⟩, by decide +kernel⟩
theorem viX2_renew : rp_Vi mX2_renew := ⟨(tg4 (List.mem_of_getElem? (i := 28) (by decide +kernel)) rfl), (tgs (List.mem_of_getElem? (i := 59) (by decide +kernel)) rfl)⟩
abbrev mX6_sheet : rp_MI := (yX6_sheet, cX6_sheet, 4, (some .int))
theorem cbX6_sheet : rp_Cb mX6_sheet 3 := ⟨(tg1 (List.mem_of_getElem? (i := 1) (by decide +kernel)) rfl), (tg4 (List.mem_of_getElem? (i := 25) rfl) rfl), ⟨by decide, by decide, by decide +kernel⟩, by decide +kernel⟩
theorem viX6_sheet : rp_Vi mX6_sheet := ⟨(tg4 (List.mem_of_getElem? (i := 23) (by decide +kernel)) rfl), (tg4 (List.mem_of_getElem? (i := 24) (by decide +kernel)) rfl)⟩
abbrev mX7_sheet : rp_MI := (yX7_sheet, cX7_sheet, 5, (some .int))
theorem cbX7_sheet : rp_Cb mX7_sheet 3 := ⟨(tg1 (List.mem_of_getElem? (i := 8) (by decide +kernel)) rfl), (tg5 (List.mem_of_getElem? (i := 237) rfl) rfl), ⟨by decide, by decide, by decide +kernel⟩, by decide +kernel⟩
theorem viX7_sheet : rp_Vi mX7_sheet := ⟨(tg5 (List.mem_of_getElem? (i := 235) (by decide +kernel)) rfl), (tg5 (List.mem_of_getElem? (i := 236) (by decide +kernel)) rfl)⟩
abbrev mX2_laneOf : rp_MI := (yX2_laneOf, cX2_laneOf, 2, (some .int))
theorem cbX2_laneOf : rp_Cb mX2_laneOf 1 := ⟨(tg1 (List.mem_of_getElem? (i := 7) (by decide +kernel)) rfl), (tg4 (List.mem_of_getElem? (i := 37) rfl) rfl), ⟨by decide, by decide, by decide +kernel⟩, by decide +kernel⟩
theorem viX2_laneOf : rp_Vi mX2_laneOf := ⟨(tg4 (List.mem_of_getElem? (i := 36) (by decide +kernel)) rfl), (tgs (List.mem_of_getElem? (i := 60) (by decide +kernel)) rfl)⟩
abbrev mX2_isNothing : rp_MI := (yX2_isNothing, cX2_isNothing, 2, (some .boolean))
theorem cbX2_isNothing : rp_Cb mX2_isNothing 1 := ⟨(tg1 (List.mem_of_getElem? (i := 7) (by decide +kernel)) rfl), (tg4 (List.mem_of_getElem? (i := 45) rfl) rfl), ⟨by decide, by decide, by decide +kernel⟩, by decide +kernel⟩
theorem viX2_isNothing : rp_Vi mX2_isNothing := ⟨(tg4 (List.mem_of_getElem? (i := 44) (by decide +kernel)) rfl), (tgs (List.mem_of_getElem? (i := 62) (by decide +kernel)) rfl)⟩
abbrev mX2_faultOf : rp_MI := (yX2_faultOf, cX2_faultOf, 5, (some .int))
theorem cbX2_faultOf : rp_Cb mX2_faultOf 4 := ⟨(tg1 (List.mem_of_getElem? (i := 7) (by decide +kernel)) rfl), (tg4 (List.mem_of_getElem? (i := 41) rfl) rfl), ⟨by decide, by decide, by decide +kernel⟩, by decide +kernel⟩
theorem viX2_faultOf : rp_Vi mX2_faultOf := ⟨(tg4 (List.mem_of_getElem? (i := 40) (by decide +kernel)) rfl), (tgs (List.mem_of_getElem? (i := 61) (by decide +kernel)) rfl)⟩
abbrev mX2_put : rp_MI := (yX2_put, cX2_put, 5, none)
theorem cbX2_put : rp_Cb mX2_put 3 := ⟨(tg1 (List.mem_of_getElem? (i := 7) (by decide +kernel)) rfl), (tg4 (List.mem_of_getElem? (i := 50) rfl) rfl), ⟨by decide, by decide, by decide +kernel⟩, by decide +kernel⟩
theorem viX2_put : rp_Vi mX2_put := ⟨(tg4 (List.mem_of_getElem? (i := 49) (by decide +kernel)) rfl), (tgs (List.mem_of_getElem? (i := 63) (by decide +kernel)) rfl)⟩
abbrev mX6_lay : rp_MI := (yX6_lay, cX6_lay, 5, (some .int))
theorem cbX6_lay : rp_Cb mX6_lay 3 := ⟨(tg1 (List.mem_of_getElem? (i := 1) (by decide +kernel)) rfl), (tg4 (List.mem_of_getElem? (i := 33) rfl) rfl), ⟨by decide, by decide, by decide +kernel⟩, by decide +kernel⟩
theorem viX6_lay : rp_Vi mX6_lay := ⟨(tg4 (List.mem_of_getElem? (i := 31) (by decide +kernel)) rfl), (tg4 (List.mem_of_getElem? (i := 32) (by decide +kernel)) rfl)⟩
abbrev mX7_lay : rp_MI := (yX7_lay, cX7_lay, 4, (some .int))
theorem cbX7_lay : rp_Cb mX7_lay 3 := ⟨(tg1 (List.mem_of_getElem? (i := 8) (by decide +kernel)) rfl), (tg6 (List.mem_of_getElem? (i := 2) rfl) rfl), ⟨by decide, by decide, by decide +kernel⟩, by decide +kernel⟩
theorem viX7_lay : rp_Vi mX7_lay := ⟨(tg6 (List.mem_of_getElem? (i := 0) (by decide +kernel)) rfl), (tg6 (List.mem_of_getElem? (i := 1) (by decide +kernel)) rfl)⟩
abbrev mX2_at : rp_MI := (yX2_at, cX2_at, 3, (some .int))
theorem cbX2_at : rp_Cb mX2_at 2 := ⟨(tg1 (List.mem_of_getElem? (i := 7) (by decide +kernel)) rfl), (tg4 (List.mem_of_getElem? (i := 62) rfl) rfl), ⟨by decide, by decide, by decide +kernel⟩, by decide +kernel⟩
theorem viX2_at : rp_Vi mX2_at := ⟨(tg4 (List.mem_of_getElem? (i := 61) (by decide +kernel)) rfl), (tgs (List.mem_of_getElem? (i := 65) (by decide +kernel)) rfl)⟩
abbrev mX6_addFromSheet : rp_MI := (yX6_addFromSheet, cX6_addFromSheet, 3, (some .int))
theorem cbX6_addFromSheet : rp_Cb mX6_addFromSheet 2 := ⟨(tg1 (List.mem_of_getElem? (i := 1) (by decide +kernel)) rfl), (tg4 (List.mem_of_getElem? (i := 58) rfl) rfl), ⟨by decide, by decide, by decide +kernel⟩, by decide +kernel⟩
theorem viX6_addFromSheet : rp_Vi mX6_addFromSheet := ⟨(tg4 (List.mem_of_getElem? (i := 57) (by decide +kernel)) rfl), (tgs (List.mem_of_getElem? (i := 64) (by decide +kernel)) rfl)⟩
abbrev mX6_read : rp_MI := (yX6_read, cX6_read, 10, (some .int))
theorem cbX6_read : rp_Cb mX6_read 4 := ⟨(tg1 (List.mem_of_getElem? (i := 1) (by decide +kernel)) rfl), (tg4 (List.mem_of_getElem? (i := 54) rfl) rfl), ⟨by decide, by decide, by decide +kernel⟩, by decide +kernel⟩
theorem viX6_read : rp_Vi mX6_read := ⟨(tg4 (List.mem_of_getElem? (i := 52) (by decide +kernel)) rfl), (tg4 (List.mem_of_getElem? (i := 53) (by decide +kernel)) rfl)⟩
abbrev mX7_read : rp_MI := (yX7_read, cX7_read, 9, (some .int))
theorem cbX7_read : rp_Cb mX7_read 4 := ⟨(tg1 (List.mem_of_getElem? (i := 8) (by decide +kernel)) rfl), (tg6 (List.mem_of_getElem? (i := 6) rfl) rfl), ⟨by decide, by decide, by decide +kernel⟩, by decide +kernel⟩
theorem viX7_read : rp_Vi mX7_read := ⟨(tg6 (List.mem_of_getElem? (i := 4) (by decide +kernel)) rfl), (tg6 (List.mem_of_getElem? (i := 5) (by decide +kernel)) rfl)⟩
abbrev mX6_torn : rp_MI := (yX6_torn, cX6_torn, 1, (some .int))
theorem cbX6_torn : rp_Cb mX6_torn 0 := ⟨(tg1 (List.mem_of_getElem? (i := 1) (by decide +kernel)) rfl), (tg4 (List.mem_of_getElem? (i := 66) rfl) rfl), ⟨by decide, by decide, by decide +kernel⟩, by decide +kernel⟩
theorem viX6_torn : rp_Vi mX6_torn := ⟨(tg4 (List.mem_of_getElem? (i := 64) (by decide +kernel)) rfl), (tg4 (List.mem_of_getElem? (i := 65) (by decide +kernel)) rfl)⟩
abbrev mX7_torn : rp_MI := (yX7_torn, cX7_torn, 1, (some .int))
theorem cbX7_torn : rp_Cb mX7_torn 0 := ⟨(tg1 (List.mem_of_getElem? (i := 8) (by decide +kernel)) rfl), (tg6 (List.mem_of_getElem? (i := 10) rfl) rfl), ⟨by decide, by decide, by decide +kernel⟩, by decide +kernel⟩
theorem viX7_torn : rp_Vi mX7_torn := ⟨(tg6 (List.mem_of_getElem? (i := 8) (by decide +kernel)) rfl), (tg6 (List.mem_of_getElem? (i := 9) (by decide +kernel)) rfl)⟩
abbrev mX2_sizeOf : rp_MI := (yX2_sizeOf, cX2_sizeOf, 2, (some .int))
theorem cbX2_sizeOf : rp_Cb mX2_sizeOf 1 := ⟨(tg1 (List.mem_of_getElem? (i := 7) (by decide +kernel)) rfl), (tg4 (List.mem_of_getElem? (i := 75) rfl) rfl), ⟨by decide, by decide, by decide +kernel⟩, by decide +kernel⟩
theorem viX2_sizeOf : rp_Vi mX2_sizeOf := ⟨(tg4 (List.mem_of_getElem? (i := 74) (by decide +kernel)) rfl), (tgs (List.mem_of_getElem? (i := 66) (by decide +kernel)) rfl)⟩
abbrev mX1_powerOfAll : rp_MI := (yX1_powerOfAll, cX1_powerOfAll, 3, (some .int))
theorem cbX1_powerOfAll : rp_Cb mX1_powerOfAll 0 := ⟨(tg1 (List.mem_of_getElem? (i := 2) (by decide +kernel)) rfl), (tg4 (List.mem_of_getElem? (i := 79) rfl) rfl), ⟨by decide, by decide, by decide +kernel⟩, by decide +kernel⟩
theorem viX1_powerOfAll : rp_Vi mX1_powerOfAll := ⟨(tg4 (List.mem_of_getElem? (i := 78) (by decide +kernel)) rfl), (tgs (List.mem_of_getElem? (i := 67) (by decide +kernel)) rfl)⟩
abbrev mX1_coughsOfAll : rp_MI := (yX1_coughsOfAll, cX1_coughsOfAll, 3, (some .int))
theorem cbX1_coughsOfAll : rp_Cb mX1_coughsOfAll 0 := ⟨(tg1 (List.mem_of_getElem? (i := 2) (by decide +kernel)) rfl), (tg4 (List.mem_of_getElem? (i := 83) rfl) rfl), ⟨by decide, by decide, by decide +kernel⟩, by decide +kernel⟩
theorem viX1_coughsOfAll : rp_Vi mX1_coughsOfAll := ⟨(tg4 (List.mem_of_getElem? (i := 82) (by decide +kernel)) rfl), (tgs (List.mem_of_getElem? (i := 68) (by decide +kernel)) rfl)⟩
abbrev mX6_count : rp_MI := (yX6_count, cX6_count, 2, (some .int))
theorem cbX6_count : rp_Cb mX6_count 1 := ⟨(tg1 (List.mem_of_getElem? (i := 1) (by decide +kernel)) rfl), (tg4 (List.mem_of_getElem? (i := 70) rfl) rfl), ⟨by decide, by decide, by decide +kernel⟩, by decide +kernel⟩
theorem viX6_count : rp_Vi mX6_count := ⟨(tg4 (List.mem_of_getElem? (i := 68) (by decide +kernel)) rfl), (tg4 (List.mem_of_getElem? (i := 69) (by decide +kernel)) rfl)⟩
abbrev mX7_count : rp_MI := (yX7_count, cX7_count, 5, (some .int))
theorem cbX7_count : rp_Cb mX7_count 1 := ⟨(tg1 (List.mem_of_getElem? (i := 8) (by decide +kernel)) rfl), (tg6 (List.mem_of_getElem? (i := 14) rfl) rfl), ⟨by decide, by decide, by decide +kernel⟩, by decide +kernel⟩
theorem viX7_count : rp_Vi mX7_count := ⟨(tg6 (List.mem_of_getElem? (i := 12) (by decide +kernel)) rfl), (tg6 (List.mem_of_getElem? (i := 13) (by decide +kernel)) rfl)⟩
theorem lkX6_57 : rp_Lk RX6 57 mX6_within := Or.inl (tg1 (List.mem_of_getElem? (i := 210) (by decide +kernel)) rfl)
theorem lkX6_160 : rp_Lk RX6 160 mX6_fitsWork := Or.inl (tg3 (List.mem_of_getElem? (i := 60) (by decide +kernel)) rfl)
theorem lkX6_167 : rp_Lk RX6 167 mX6_fitsReader := Or.inl (tg3 (List.mem_of_getElem? (i := 66) (by decide +kernel)) rfl)
theorem lkX6_204 : rp_Lk RX6 204 mJ6_bitCount_0f7a4 := Or.inl (tg3 (List.mem_of_getElem? (i := 131) (by decide +kernel)) rfl)
theorem lkX6_229 : rp_Lk RX6 229 mX6_partOf := Or.inl (tg3 (List.mem_of_getElem? (i := 180) (by decide +kernel)) rfl)
theorem lkX6_236 : rp_Lk RX6 236 mX6_power := Or.inl (tg3 (List.mem_of_getElem? (i := 187) (by decide +kernel)) rfl)
theorem lkX6_267 : rp_Lk RX6 267 mX6_windsThatDrop := Or.inl (tg4 (List.mem_of_getElem? (i := 2) (by decide +kernel)) rfl)
theorem mwX6_271 : rp_Mw RX6 271 Lib.Math.max.name Lib.Math.max.code 2 := ⟨(tg2 (List.mem_of_getElem? (i := 173) (by decide +kernel)) rfl), (tg2 (List.mem_of_getElem? (i := 174) (by decide +kernel)) rfl), (tg1 (List.mem_of_getElem? (i := 14) (by decide +kernel)) rfl), (tg2 (List.mem_of_getElem? (i := 175) rfl) rfl)⟩
theorem mwX6_317 : rp_Mw RX6 317 Lib.Math.min.name Lib.Math.min.code 2 := ⟨(tg2 (List.mem_of_getElem? (i := 170) (by decide +kernel)) rfl), (tg2 (List.mem_of_getElem? (i := 171) (by decide +kernel)) rfl), (tg1 (List.mem_of_getElem? (i := 14) (by decide +kernel)) rfl), (tg2 (List.mem_of_getElem? (i := 172) rfl) rfl)⟩
theorem lkX6_320 : rp_Lk RX6 320 mX6_greatestDivisor := Or.inl (tg3 (List.mem_of_getElem? (i := 183) (by decide +kernel)) rfl)
theorem lkX6_72 : rp_Lk RX6 72 mX5_tellTo := Or.inr ⟨"RocketPrint", (nw1 (List.mem_of_getElem? (i := 221) (by decide +kernel)) rfl)⟩
theorem lkX6_82 : rp_Lk RX6 82 mX1_become := Or.inr ⟨"RocketPrint", (nw2 (List.mem_of_getElem? (i := 126) (by decide +kernel)) rfl)⟩
theorem lkX6_104 : rp_Lk RX6 104 mX3_begin := Or.inr ⟨"RocketPrint", (nw2 (List.mem_of_getElem? (i := 141) (by decide +kernel)) rfl)⟩
theorem lkX6_107 : rp_Lk RX6 107 mX3_minutesOfAll := Or.inr ⟨"RocketPrint", (nw2 (List.mem_of_getElem? (i := 180) (by decide +kernel)) rfl)⟩
theorem lkX6_111 : rp_Lk RX6 111 mX3_wholesOfAll := Or.inr ⟨"RocketPrint", (nw2 (List.mem_of_getElem? (i := 207) (by decide +kernel)) rfl)⟩
theorem lkX6_114 : rp_Lk RX6 114 mX1_hasWork := Or.inr ⟨"RocketPrint", (nw3 (List.mem_of_getElem? (i := 5) (by decide +kernel)) rfl)⟩
theorem lkX6_118 : rp_Lk RX6 118 mX1_ofWork := Or.inr ⟨"RocketPrint", (nw3 (List.mem_of_getElem? (i := 10) (by decide +kernel)) rfl)⟩
theorem lkX6_122 : rp_Lk RX6 122 mX1_lastsOf := Or.inr ⟨"RocketPrint", (nw3 (List.mem_of_getElem? (i := 11) (by decide +kernel)) rfl)⟩
theorem lkX6_126 : rp_Lk RX6 126 mX1_wideOf := Or.inr ⟨"RocketPrint", (nw3 (List.mem_of_getElem? (i := 12) (by decide +kernel)) rfl)⟩
theorem lkX6_129 : rp_Lk RX6 129 mX1_burstOf := Or.inr ⟨"RocketPrint", (nw3 (List.mem_of_getElem? (i := 13) (by decide +kernel)) rfl)⟩
theorem lkX6_132 : rp_Lk RX6 132 mX1_stickOf := Or.inr ⟨"RocketPrint", (nw3 (List.mem_of_getElem? (i := 14) (by decide +kernel)) rfl)⟩
theorem lkX6_135 : rp_Lk RX6 135 mX3_readersWhole := Or.inr ⟨"RocketPrint", (nw3 (List.mem_of_getElem? (i := 20) (by decide +kernel)) rfl)⟩
theorem lkX6_138 : rp_Lk RX6 138 mX1_hasReader := Or.inr ⟨"RocketPrint", (nw3 (List.mem_of_getElem? (i := 28) (by decide +kernel)) rfl)⟩
theorem lkX6_141 : rp_Lk RX6 141 mX1_ofReader := Or.inr ⟨"RocketPrint", (nw3 (List.mem_of_getElem? (i := 32) (by decide +kernel)) rfl)⟩
theorem lkX6_144 : rp_Lk RX6 144 mX3_worksWhole := Or.inr ⟨"RocketPrint", (nw3 (List.mem_of_getElem? (i := 33) (by decide +kernel)) rfl)⟩
theorem lkX6_147 : rp_Lk RX6 147 mX3_minutesOf := Or.inr ⟨"RocketPrint", (nw3 (List.mem_of_getElem? (i := 37) (by decide +kernel)) rfl)⟩
theorem lkX6_150 : rp_Lk RX6 150 mX3_minutesAt := Or.inr ⟨"RocketPrint", (nw3 (List.mem_of_getElem? (i := 45) (by decide +kernel)) rfl)⟩
theorem lkX6_153 : rp_Lk RX6 153 mX3_lookedAt := Or.inr ⟨"RocketPrint", (nw3 (List.mem_of_getElem? (i := 50) (by decide +kernel)) rfl)⟩
theorem lkX6_156 : rp_Lk RX6 156 mX3_isUp := Or.inr ⟨"RocketPrint", (nw3 (List.mem_of_getElem? (i := 55) (by decide +kernel)) rfl)⟩
theorem lkX6_163 : rp_Lk RX6 163 mX1_setWork := Or.inr ⟨"RocketPrint", (nw3 (List.mem_of_getElem? (i := 61) (by decide +kernel)) rfl)⟩
theorem lkX6_170 : rp_Lk RX6 170 mX1_setReader := Or.inr ⟨"RocketPrint", (nw3 (List.mem_of_getElem? (i := 67) (by decide +kernel)) rfl)⟩
theorem lkX6_173 : rp_Lk RX6 173 mX1_addWork := Or.inr ⟨"RocketPrint", (nw3 (List.mem_of_getElem? (i := 80) (by decide +kernel)) rfl)⟩
theorem lkX6_177 : rp_Lk RX6 177 mX1_addReader := Or.inr ⟨"RocketPrint", (nw3 (List.mem_of_getElem? (i := 85) (by decide +kernel)) rfl)⟩
theorem lkX6_180 : rp_Lk RX6 180 mX3_isRead := Or.inr ⟨"RocketPrint", (nw3 (List.mem_of_getElem? (i := 102) (by decide +kernel)) rfl)⟩
theorem lkX6_183 : rp_Lk RX6 183 mX0_beginAbove := Or.inr ⟨"RocketPrint", (nw3 (List.mem_of_getElem? (i := 110) (by decide +kernel)) rfl)⟩
theorem lkX6_187 : rp_Lk RX6 187 mX3_lookersAt := Or.inr ⟨"RocketPrint", (nw3 (List.mem_of_getElem? (i := 114) (by decide +kernel)) rfl)⟩
theorem lkX6_190 : rp_Lk RX6 190 mX0_offer := Or.inr ⟨"RocketPrint", (nw3 (List.mem_of_getElem? (i := 118) (by decide +kernel)) rfl)⟩
theorem lkX6_194 : rp_Lk RX6 194 mX0_answer := Or.inr ⟨"RocketPrint", (nw3 (List.mem_of_getElem? (i := 122) (by decide +kernel)) rfl)⟩
theorem lkX6_201 : rp_Lk RX6 201 mX3_settle := Or.inr ⟨"RocketPrint", (nw3 (List.mem_of_getElem? (i := 130) (by decide +kernel)) rfl)⟩
theorem lkX6_209 : rp_Lk RX6 209 mX6_minutesIfSwapped := Or.inl (tg3 (List.mem_of_getElem? (i := 145) (by decide +kernel)) rfl)
theorem lkX6_212 : rp_Lk RX6 212 mX3_putOut := Or.inr ⟨"RocketPrint", (nw3 (List.mem_of_getElem? (i := 153) (by decide +kernel)) rfl)⟩
theorem lkX6_218 : rp_Lk RX6 218 mX3_isWhole := Or.inr ⟨"RocketPrint", (nw3 (List.mem_of_getElem? (i := 161) (by decide +kernel)) rfl)⟩
theorem lkX6_221 : rp_Lk RX6 221 mX3_minutesByAll := Or.inr ⟨"RocketPrint", (nw3 (List.mem_of_getElem? (i := 170) (by decide +kernel)) rfl)⟩
theorem lkX6_226 : rp_Lk RX6 226 mX3_isWholeAlone := Or.inr ⟨"RocketPrint", (nw3 (List.mem_of_getElem? (i := 179) (by decide +kernel)) rfl)⟩
theorem lkX6_233 : rp_Lk RX6 233 mX3_rivalsOf := Or.inr ⟨"RocketPrint", (nw3 (List.mem_of_getElem? (i := 186) (by decide +kernel)) rfl)⟩
theorem lkX6_242 : rp_Lk RX6 242 mX3_choicesOf := Or.inr ⟨"RocketPrint", (nw3 (List.mem_of_getElem? (i := 195) (by decide +kernel)) rfl)⟩
theorem lkX6_245 : rp_Lk RX6 245 mX4_add := Or.inr ⟨"RocketPrint", (nw3 (List.mem_of_getElem? (i := 203) (by decide +kernel)) rfl)⟩
theorem lkX6_248 : rp_Lk RX6 248 mX4_agreeWith := Or.inr ⟨"RocketPrint", (nw3 (List.mem_of_getElem? (i := 215) (by decide +kernel)) rfl)⟩
theorem lkX6_252 : rp_Lk RX6 252 mX6_valuesAsSeen := Or.inl (tg3 (List.mem_of_getElem? (i := 225) (by decide +kernel)) rfl)
theorem lkX6_255 : rp_Lk RX6 255 mX6_winds := Or.inl (tg3 (List.mem_of_getElem? (i := 237) (by decide +kernel)) rfl)
theorem lkX6_258 : rp_Lk RX6 258 mX6_windsLeftAtWorst := Or.inl (tg3 (List.mem_of_getElem? (i := 238) (by decide +kernel)) rfl)
theorem lkX6_277 : rp_Lk RX6 277 mX6_imageOf := Or.inl (tg4 (List.mem_of_getElem? (i := 14) (by decide +kernel)) rfl)
theorem lkX6_281 : rp_Lk RX6 281 mX2_renew := Or.inr ⟨"RocketPrint", (nw4 (List.mem_of_getElem? (i := 26) (by decide +kernel)) rfl)⟩
theorem lkX6_284 : rp_Lk RX6 284 mX2_laneOf := Or.inr ⟨"RocketPrint", (nw4 (List.mem_of_getElem? (i := 34) (by decide +kernel)) rfl)⟩
theorem lkX6_287 : rp_Lk RX6 287 mX2_faultOf := Or.inr ⟨"RocketPrint", (nw4 (List.mem_of_getElem? (i := 38) (by decide +kernel)) rfl)⟩
theorem lkX6_290 : rp_Lk RX6 290 mX2_put := Or.inr ⟨"RocketPrint", (nw4 (List.mem_of_getElem? (i := 47) (by decide +kernel)) rfl)⟩
theorem lkX6_293 : rp_Lk RX6 293 mX6_addFromSheet := Or.inl (tg4 (List.mem_of_getElem? (i := 55) (by decide +kernel)) rfl)
theorem lkX6_299 : rp_Lk RX6 299 mX2_at := Or.inr ⟨"RocketPrint", (nw4 (List.mem_of_getElem? (i := 59) (by decide +kernel)) rfl)⟩
theorem lkX6_302 : rp_Lk RX6 302 mX2_isNothing := Or.inr ⟨"RocketPrint", (nw4 (List.mem_of_getElem? (i := 71) (by decide +kernel)) rfl)⟩
theorem lkX6_305 : rp_Lk RX6 305 mX2_sizeOf := Or.inr ⟨"RocketPrint", (nw4 (List.mem_of_getElem? (i := 72) (by decide +kernel)) rfl)⟩
theorem lkX6_308 : rp_Lk RX6 308 mX1_powerOfAll := Or.inr ⟨"RocketPrint", (nw4 (List.mem_of_getElem? (i := 76) (by decide +kernel)) rfl)⟩
theorem lkX6_311 : rp_Lk RX6 311 mX1_coughsOfAll := Or.inr ⟨"RocketPrint", (nw4 (List.mem_of_getElem? (i := 80) (by decide +kernel)) rfl)⟩
theorem cwX1_31 : rp_Cw RX1 31 := ⟨(tg2 (List.mem_of_getElem? (i := 130) (by decide +kernel)) rfl), (tg2 (List.mem_of_getElem? (i := 132) (by decide +kernel)) rfl), (tg2 (List.mem_of_getElem? (i := 131) (by decide +kernel)) rfl), (tg1 (List.mem_of_getElem? (i := 13) (by decide +kernel)) rfl)⟩
theorem lkX1_37 : rp_Lk RX1 37 mX6_within := Or.inr ⟨"RocketPrint", (nw3 (List.mem_of_getElem? (i := 9) (by decide +kernel)) rfl)⟩
theorem lkX1_41 : rp_Lk RX1 41 mX6_fitsWork := Or.inr ⟨"RocketPrint", (nw2 (List.mem_of_getElem? (i := 91) (by decide +kernel)) rfl)⟩
theorem lkX1_49 : rp_Lk RX1 49 mX6_fitsReader := Or.inr ⟨"RocketPrint", (nw2 (List.mem_of_getElem? (i := 110) (by decide +kernel)) rfl)⟩
theorem lkX1_59 : rp_Lk RX1 59 mX6_clampToDyke := Or.inr ⟨"RocketPrint", (nw2 (List.mem_of_getElem? (i := 167) (by decide +kernel)) rfl)⟩
theorem lkX1_45 : rp_Lk RX1 45 mX1_setWork := Or.inl (tg2 (List.mem_of_getElem? (i := 96) (by decide +kernel)) rfl)
theorem lkX1_52 : rp_Lk RX1 52 mX1_setReader := Or.inl (tg2 (List.mem_of_getElem? (i := 114) (by decide +kernel)) rfl)
theorem lkX1_55 : rp_Lk RX1 55 mX1_ofWork := Or.inl (tg2 (List.mem_of_getElem? (i := 158) (by decide +kernel)) rfl)
theorem lkX1_63 : rp_Lk RX1 63 mX1_burstOf := Or.inl (tg3 (List.mem_of_getElem? (i := 18) (by decide +kernel)) rfl)
theorem lkX1_66 : rp_Lk RX1 66 mX1_lastsOf := Or.inl (tg3 (List.mem_of_getElem? (i := 19) (by decide +kernel)) rfl)
theorem lkX1_69 : rp_Lk RX1 69 mX1_ofReader := Or.inl (tg4 (List.mem_of_getElem? (i := 84) (by decide +kernel)) rfl)
theorem lkX2_29 : rp_Lk RX2 29 mX6_within := Or.inr ⟨"RocketPrint", (nw4 (List.mem_of_getElem? (i := 46) (by decide +kernel)) rfl)⟩
theorem lkX2_25 : rp_Lk RX2 25 mX2_isNothing := Or.inl (tg4 (List.mem_of_getElem? (i := 42) (by decide +kernel)) rfl)
theorem mwX3_63 : rp_Mw RX3 63 Lib.Math.abs.name Lib.Math.abs.code 1 := ⟨(tg2 (List.mem_of_getElem? (i := 200) (by decide +kernel)) rfl), (tg2 (List.mem_of_getElem? (i := 201) (by decide +kernel)) rfl), (tg1 (List.mem_of_getElem? (i := 14) (by decide +kernel)) rfl), (tg2 (List.mem_of_getElem? (i := 202) rfl) rfl)⟩
theorem mwX3_106 : rp_Mw RX3 106 Lib.Math.max.name Lib.Math.max.code 2 := ⟨(tg2 (List.mem_of_getElem? (i := 235) (by decide +kernel)) rfl), (tg2 (List.mem_of_getElem? (i := 174) (by decide +kernel)) rfl), (tg1 (List.mem_of_getElem? (i := 14) (by decide +kernel)) rfl), (tg2 (List.mem_of_getElem? (i := 175) rfl) rfl)⟩
theorem mwX3_109 : rp_Mw RX3 109 Lib.Math.min.name Lib.Math.min.code 2 := ⟨(tg2 (List.mem_of_getElem? (i := 236) (by decide +kernel)) rfl), (tg2 (List.mem_of_getElem? (i := 171) (by decide +kernel)) rfl), (tg1 (List.mem_of_getElem? (i := 14) (by decide +kernel)) rfl), (tg2 (List.mem_of_getElem? (i := 172) rfl) rfl)⟩
theorem lkX3_31 : rp_Lk RX3 31 mX1_become := Or.inr ⟨"RocketPrint", (nw2 (List.mem_of_getElem? (i := 145) (by decide +kernel)) rfl)⟩
theorem lkX3_35 : rp_Lk RX3 35 mX3_settle := Or.inl (tg2 (List.mem_of_getElem? (i := 146) (by decide +kernel)) rfl)
theorem lkX3_42 : rp_Lk RX3 42 mX1_ofWork := Or.inr ⟨"RocketPrint", (nw2 (List.mem_of_getElem? (i := 150) (by decide +kernel)) rfl)⟩
theorem lkX3_46 : rp_Lk RX3 46 mX1_goesUp := Or.inr ⟨"RocketPrint", (nw2 (List.mem_of_getElem? (i := 154) (by decide +kernel)) rfl)⟩
theorem lkX3_50 : rp_Lk RX3 50 mX1_lastsOf := Or.inr ⟨"RocketPrint", (nw2 (List.mem_of_getElem? (i := 159) (by decide +kernel)) rfl)⟩
theorem lkX3_54 : rp_Lk RX3 54 mX1_burstOf := Or.inr ⟨"RocketPrint", (nw2 (List.mem_of_getElem? (i := 163) (by decide +kernel)) rfl)⟩
theorem lkX3_57 : rp_Lk RX3 57 mX1_wideOf := Or.inr ⟨"RocketPrint", (nw2 (List.mem_of_getElem? (i := 176) (by decide +kernel)) rfl)⟩
theorem lkX3_60 : rp_Lk RX3 60 mX1_ofReader := Or.inr ⟨"RocketPrint", (nw2 (List.mem_of_getElem? (i := 196) (by decide +kernel)) rfl)⟩
theorem lkX3_68 : rp_Lk RX3 68 mX3_distance := Or.inl (tg2 (List.mem_of_getElem? (i := 223) (by decide +kernel)) rfl)
theorem lkX3_71 : rp_Lk RX3 71 mX3_coughsAt := Or.inl (tg2 (List.mem_of_getElem? (i := 192) (by decide +kernel)) rfl)
theorem lkX3_75 : rp_Lk RX3 75 mX3_isUp := Or.inl (tg2 (List.mem_of_getElem? (i := 203) (by decide +kernel)) rfl)
theorem lkX3_81 : rp_Lk RX3 81 mX3_lookedAt := Or.inl (tg2 (List.mem_of_getElem? (i := 188) (by decide +kernel)) rfl)
theorem lkX3_84 : rp_Lk RX3 84 mX3_isWholeAlone := Or.inl (tg2 (List.mem_of_getElem? (i := 215) (by decide +kernel)) rfl)
theorem lkX3_87 : rp_Lk RX3 87 mX3_rivalsOf := Or.inl (tg2 (List.mem_of_getElem? (i := 227) (by decide +kernel)) rfl)
theorem lkX3_90 : rp_Lk RX3 90 mX3_minutesAt := Or.inl (tg2 (List.mem_of_getElem? (i := 184) (by decide +kernel)) rfl)
theorem lkX3_93 : rp_Lk RX3 93 mX3_isWhole := Or.inl (tg2 (List.mem_of_getElem? (i := 211) (by decide +kernel)) rfl)
theorem lkX3_96 : rp_Lk RX3 96 mX3_reaches := Or.inl (tg2 (List.mem_of_getElem? (i := 219) (by decide +kernel)) rfl)
theorem lkX3_99 : rp_Lk RX3 99 mX3_overlap := Or.inl (tg2 (List.mem_of_getElem? (i := 231) (by decide +kernel)) rfl)
theorem lkX3_102 : rp_Lk RX3 102 mX3_isBefore := Or.inl (tg2 (List.mem_of_getElem? (i := 237) (by decide +kernel)) rfl)
theorem lkX4_22 : rp_Lk RX4 22 mX1_hasWork := Or.inr ⟨"RocketPrint", (nw3 (List.mem_of_getElem? (i := 219) (by decide +kernel)) rfl)⟩
theorem lkX4_28 : rp_Lk RX4 28 mX1_stickOf := Or.inr ⟨"RocketPrint", (nw3 (List.mem_of_getElem? (i := 220) (by decide +kernel)) rfl)⟩
theorem lkX5_104 : rp_Lk RX5 104 mX6_within := Or.inr ⟨"RocketPrint", (nw2 (List.mem_of_getElem? (i := 82) (by decide +kernel)) rfl)⟩
theorem lkX5_114 : rp_Lk RX5 114 mX5_isLetter := Or.inl (tg1 (List.mem_of_getElem? (i := 233) (by decide +kernel)) rfl)
theorem lkX5_118 : rp_Lk RX5 118 mX5_isFigure := Or.inl (tg1 (List.mem_of_getElem? (i := 236) (by decide +kernel)) rfl)
theorem lkX5_15 : rp_Lk RX5 15 mX1_clear := Or.inr ⟨"RocketPrint", (nw1 (List.mem_of_getElem? (i := 225) (by decide +kernel)) rfl)⟩
theorem lkX5_34 : rp_Lk RX5 34 mX5_takeToken := Or.inl (tg1 (List.mem_of_getElem? (i := 229) (by decide +kernel)) rfl)
theorem lkX5_40 : rp_Lk RX5 40 mX5_takeLine := Or.inl (tg2 (List.mem_of_getElem? (i := 3) (by decide +kernel)) rfl)
theorem lkX5_44 : rp_Lk RX5 44 mX5_wordRead := Or.inl (tg2 (List.mem_of_getElem? (i := 7) (by decide +kernel)) rfl)
theorem lkX5_48 : rp_Lk RX5 48 mX5_blame := Or.inl (tg1 (List.mem_of_getElem? (i := 239) (by decide +kernel)) rfl)
theorem lkX5_52 : rp_Lk RX5 52 mX5_takeWork := Or.inl (tg2 (List.mem_of_getElem? (i := 70) (by decide +kernel)) rfl)
theorem lkX5_56 : rp_Lk RX5 56 mX5_takeReader := Or.inl (tg2 (List.mem_of_getElem? (i := 100) (by decide +kernel)) rfl)
theorem lkX5_59 : rp_Lk RX5 59 mX5_takeWind := Or.inl (tg2 (List.mem_of_getElem? (i := 118) (by decide +kernel)) rfl)
theorem lkX5_62 : rp_Lk RX5 62 mX5_takeDamp := Or.inl (tg2 (List.mem_of_getElem? (i := 122) (by decide +kernel)) rfl)
theorem lkX5_75 : rp_Lk RX5 75 mX5_takeNumber := Or.inl (tg2 (List.mem_of_getElem? (i := 78) (by decide +kernel)) rfl)
theorem lkX5_79 : rp_Lk RX5 79 mX5_takeSign := Or.inl (tg2 (List.mem_of_getElem? (i := 83) (by decide +kernel)) rfl)
theorem lkX5_82 : rp_Lk RX5 82 mX1_addWork := Or.inr ⟨"RocketPrint", (nw2 (List.mem_of_getElem? (i := 87) (by decide +kernel)) rfl)⟩
theorem lkX5_92 : rp_Lk RX5 92 mX1_addReader := Or.inr ⟨"RocketPrint", (nw2 (List.mem_of_getElem? (i := 106) (by decide +kernel)) rfl)⟩
theorem lkX5_123 : rp_Lk RX5 123 mX5_isWord := Or.inl (tg2 (List.mem_of_getElem? (i := 12) (by decide +kernel)) rfl)
theorem lkX5_137 : rp_Lk RX5 137 mJ0_length_8abf5 := Or.inl (tg2 (List.mem_of_getElem? (i := 16) (by decide +kernel)) rfl)
theorem lkX5_141 : rp_Lk RX5 141 mJ0_charAt_5068e := Or.inl (tg2 (List.mem_of_getElem? (i := 26) (by decide +kernel)) rfl)
theorem lkX7_49 : rp_Lk RX7 49 mX7_in := Or.inl (tg4 (List.mem_of_getElem? (i := 179) (by decide +kernel)) rfl)
theorem lkX7_123 : rp_Lk RX7 123 mX7_shore := Or.inl (tg5 (List.mem_of_getElem? (i := 3) (by decide +kernel)) rfl)
theorem lkX7_139 : rp_Lk RX7 139 mX7_apart := Or.inl (tg5 (List.mem_of_getElem? (i := 6) (by decide +kernel)) rfl)
theorem lkX7_186 : rp_Lk RX7 186 mX7_isMinute := Or.inl (tg5 (List.mem_of_getElem? (i := 66) (by decide +kernel)) rfl)
theorem lkX7_189 : rp_Lk RX7 189 mX7_isPlace := Or.inl (tg5 (List.mem_of_getElem? (i := 81) (by decide +kernel)) rfl)
theorem lkX7_196 : rp_Lk RX7 196 mX7_isGood := Or.inl (tg5 (List.mem_of_getElem? (i := 78) (by decide +kernel)) rfl)
theorem lkX7_213 : rp_Lk RX7 213 mX7_bitsOf := Or.inl (tg5 (List.mem_of_getElem? (i := 144) (by decide +kernel)) rfl)
theorem lkX7_218 : rp_Lk RX7 218 mX7_lowest := Or.inl (tg5 (List.mem_of_getElem? (i := 180) (by decide +kernel)) rfl)
theorem lkX7_72 : rp_Lk RX7 72 mX7_byteAt := Or.inl (tg4 (List.mem_of_getElem? (i := 194) (by decide +kernel)) rfl)
theorem lkX7_87 : rp_Lk RX7 87 mX7_fails := Or.inl (tg4 (List.mem_of_getElem? (i := 202) (by decide +kernel)) rfl)
theorem lkX7_91 : rp_Lk RX7 91 mX7_step := Or.inl (tg4 (List.mem_of_getElem? (i := 190) (by decide +kernel)) rfl)
theorem lkX7_94 : rp_Lk RX7 94 mX7_number := Or.inl (tg4 (List.mem_of_getElem? (i := 219) (by decide +kernel)) rfl)
theorem lkX7_98 : rp_Lk RX7 98 mX7_nameHere := Or.inl (tg4 (List.mem_of_getElem? (i := 210) (by decide +kernel)) rfl)
theorem lkX7_107 : rp_Lk RX7 107 mX7_readMore := Or.inl (tg4 (List.mem_of_getElem? (i := 215) (by decide +kernel)) rfl)
theorem lkX7_110 : rp_Lk RX7 110 mX7_readLine := Or.inl (tg4 (List.mem_of_getElem? (i := 206) (by decide +kernel)) rfl)
theorem lkX7_126 : rp_Lk RX7 126 mX7_lastsOn := Or.inl (tg5 (List.mem_of_getElem? (i := 21) (by decide +kernel)) rfl)
theorem lkX7_129 : rp_Lk RX7 129 mX7_burstOn := Or.inl (tg4 (List.mem_of_getElem? (i := 239) (by decide +kernel)) rfl)
theorem lkX7_135 : rp_Lk RX7 135 mX7_goesUp := Or.inl (tg5 (List.mem_of_getElem? (i := 17) (by decide +kernel)) rfl)
theorem lkX7_142 : rp_Lk RX7 142 mX7_wideOn := Or.inl (tg5 (List.mem_of_getElem? (i := 9) (by decide +kernel)) rfl)
theorem lkX7_145 : rp_Lk RX7 145 mX7_isUp := Or.inl (tg5 (List.mem_of_getElem? (i := 13) (by decide +kernel)) rfl)
theorem lkX7_158 : rp_Lk RX7 158 mX7_looksOn := Or.inl (tg4 (List.mem_of_getElem? (i := 235) (by decide +kernel)) rfl)
theorem lkX7_162 : rp_Lk RX7 162 mX7_isWhole := Or.inl (tg5 (List.mem_of_getElem? (i := 25) (by decide +kernel)) rfl)
theorem lkX7_165 : rp_Lk RX7 165 mX7_nightOn := Or.inl (tg4 (List.mem_of_getElem? (i := 231) (by decide +kernel)) rfl)
theorem lkX7_168 : rp_Lk RX7 168 mX7_isWork := Or.inl (tg5 (List.mem_of_getElem? (i := 33) (by decide +kernel)) rfl)
theorem lkX7_172 : rp_Lk RX7 172 mX7_stickOn := Or.inl (tg5 (List.mem_of_getElem? (i := 37) (by decide +kernel)) rfl)
theorem lkX7_175 : rp_Lk RX7 175 mX7_wholeBy := Or.inl (tg5 (List.mem_of_getElem? (i := 41) (by decide +kernel)) rfl)
theorem lkX7_178 : rp_Lk RX7 178 mX7_isReader := Or.inl (tg5 (List.mem_of_getElem? (i := 49) (by decide +kernel)) rfl)
theorem lkX7_183 : rp_Lk RX7 183 mX7_minutesOf := Or.inl (tg5 (List.mem_of_getElem? (i := 54) (by decide +kernel)) rfl)
theorem lkX7_199 : rp_Lk RX7 199 mX7_puts := Or.inl (tg5 (List.mem_of_getElem? (i := 87) (by decide +kernel)) rfl)
theorem lkX7_205 : rp_Lk RX7 205 mX7_writes := Or.inl (tg5 (List.mem_of_getElem? (i := 108) (by decide +kernel)) rfl)
theorem lkX7_209 : rp_Lk RX7 209 mX7_copies := Or.inl (tg5 (List.mem_of_getElem? (i := 140) (by decide +kernel)) rfl)
theorem lkX7_222 : rp_Lk RX7 222 mX7_byDamp := Or.inl (tg5 (List.mem_of_getElem? (i := 176) (by decide +kernel)) rfl)
theorem lkX7_228 : rp_Lk RX7 228 mX7_isAsSeen := Or.inl (tg5 (List.mem_of_getElem? (i := 204) (by decide +kernel)) rfl)
theorem lkX7_231 : rp_Lk RX7 231 mX7_windsNow := Or.inl (tg5 (List.mem_of_getElem? (i := 200) (by decide +kernel)) rfl)
theorem lkJ0_495 : rp_Lk RJ0 495 mJ1_charAt_3b067 := Or.inl (tg2 (List.mem_of_getElem? (i := 34) (by decide +kernel)) rfl)
theorem lkJ0_1059 : rp_Lk RJ0 1059 mJ3_checkIndex_8e157 := Or.inl (tg2 (List.mem_of_getElem? (i := 42) (by decide +kernel)) rfl)
theorem lkJ0_335 : rp_Lk RJ0 335 mJ0_coder_7d493 := Or.inl (tg2 (List.mem_of_getElem? (i := 20) (by decide +kernel)) rfl)
theorem lkJ0_492 : rp_Lk RJ0 492 mJ0_isLatin1_aae02 := Or.inl (tg2 (List.mem_of_getElem? (i := 30) (by decide +kernel)) rfl)
theorem lkJ1_9 : rp_Lk RJ1 9 mJ0_checkIndex_df160 := Or.inl (tg2 (List.mem_of_getElem? (i := 37) (by decide +kernel)) rfl)
