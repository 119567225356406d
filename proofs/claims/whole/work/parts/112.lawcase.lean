set_option maxRecDepth 100000 in
theorem lawc_22 {E : rp_E} {b L : Nat} {xs : Nat → Int32} {i : Nat} {σ : rp_S} (hi : i + 5 ≤ L) (hL : L ≤ 320) (hI : Inv σ) (nx : ∀ τ : rp_S, Inv τ → rp_R E (lw_K E b L xs) mL_law 1498 (lwv E b (rI (i : Int))) [] τ lw_h (some ())) : rp_R E (lw_K E b L xs) mL_law 840 (lwv E b (rI (i : Int))) [] σ lw_h (some ()) := by
  obtain ⟨r, σ1, σ2, h1, h2, h3⟩ := op_stand hI (xs (rI (i : Int) + rI 1).toNatClampNeg) (xs (rI (i : Int) + rI 2).toNatClampNeg)
  refine rp_aload_n (x := (E.2.2.2.1 0)) dL_law_840 rfl ?_
  refine rp_aload_n (x := b) dL_law_841 rfl ?_
  refine rp_iload_n (x := rI (i : Int)) dL_law_842 rfl ?_
  refine rp_iconst dL_law_843 ?_
  refine rp_iadd dL_law_844 ?_
  refine lw_sld (i := rI (i : Int) + rI 1) (lw_in (by omega) (by omega) hL) dL_law_845 ?_
  refine rp_aload_n (x := b) dL_law_846 rfl ?_
  refine rp_iload_n (x := rI (i : Int)) dL_law_847 rfl ?_
  refine rp_iconst dL_law_848 ?_
  refine rp_iadd dL_law_849 ?_
  refine lw_sld (i := rI (i : Int) + rI 2) (lw_in (by omega) (by omega) hL) dL_law_850 ?_
  refine lw_cI h1 (fun kk => rp_callV_hI (As := [.int (xs (rI (i : Int) + rI 1).toNatClampNeg), .int (xs (rI (i : Int) + rI 2).toNatClampNeg)]) (rest := []) (b := (E.2.2.2.1 0)) (rX6_stand σ (xs (rI (i : Int) + rI 1).toNatClampNeg) (xs (rI (i : Int) + rI 2).toNatClampNeg)) cbX6_stand lkL_106 viX6_stand (rp_rcO sh0 rfl) rfl (Nat.le_of_ble_eq_true rfl) ⟨rfl, rfl, ⟨Nat.le_of_ble_eq_true rfl, Nat.le_of_ble_eq_true rfl⟩, Nat.le_of_ble_eq_true rfl, Nat.le_of_ble_eq_true rfl⟩ rfl (Nat.le_of_ble_eq_true rfl) dL_law_851 kk) ?_
  refine rp_aload_n (x := (E.2.2.2.1 28)) dL_law_854 rfl ?_
  refine rp_aload_n (x := b) dL_law_855 rfl ?_
  refine rp_iload_n (x := rI (i : Int)) dL_law_856 rfl ?_
  refine rp_iconst dL_law_857 ?_
  refine rp_iadd dL_law_858 ?_
  refine lw_sld (i := rI (i : Int) + rI 1) (lw_in (by omega) (by omega) hL) dL_law_859 ?_
  refine rp_aload_n (x := b) dL_law_860 rfl ?_
  refine rp_iload_n (x := rI (i : Int)) dL_law_861 rfl ?_
  refine rp_iconst dL_law_862 ?_
  refine rp_iadd dL_law_863 ?_
  refine lw_sld (i := rI (i : Int) + rI 2) (lw_in (by omega) (by omega) hL) dL_law_864 ?_
  refine lw_cI h2 (fun kk => rp_callV_hI (As := [.int (xs (rI (i : Int) + rI 1).toNatClampNeg), .int (xs (rI (i : Int) + rI 2).toNatClampNeg)]) (rest := [.int r]) (b := (E.2.2.2.1 28)) (rX7_stand σ1 (xs (rI (i : Int) + rI 1).toNatClampNeg) (xs (rI (i : Int) + rI 2).toNatClampNeg)) cbX7_stand lkL_109 viX7_stand (rp_rcO sh28 rfl) rfl (Nat.le_of_ble_eq_true rfl) ⟨rfl, rfl, ⟨Nat.le_of_ble_eq_true rfl, Nat.le_of_ble_eq_true rfl⟩, Nat.le_of_ble_eq_true rfl, Nat.le_of_ble_eq_true rfl⟩ rfl (Nat.le_of_ble_eq_true rfl) dL_law_865 kk) ?_
  refine lw_eq (tgt := 1498) dL_law_868 (by decide) ?_
  exact nx σ2 h3
set_option maxRecDepth 100000 in
theorem lawc_23 {E : rp_E} {b L : Nat} {xs : Nat → Int32} {i : Nat} {σ : rp_S} (hi : i + 5 ≤ L) (hL : L ≤ 320) (hI : Inv σ) (nx : ∀ τ : rp_S, Inv τ → rp_R E (lw_K E b L xs) mL_law 1498 (lwv E b (rI (i : Int))) [] τ lw_h (some ())) : rp_R E (lw_K E b L xs) mL_law 873 (lwv E b (rI (i : Int))) [] σ lw_h (some ()) := by
  obtain ⟨r, σ1, σ2, h1, h2, h3⟩ := op_swap hI (xs (rI (i : Int) + rI 1).toNatClampNeg)
  refine rp_aload_n (x := (E.2.2.2.1 0)) dL_law_873 rfl ?_
  refine rp_aload_n (x := b) dL_law_874 rfl ?_
  refine rp_iload_n (x := rI (i : Int)) dL_law_875 rfl ?_
  refine rp_iconst dL_law_876 ?_
  refine rp_iadd dL_law_877 ?_
  refine lw_sld (i := rI (i : Int) + rI 1) (lw_in (by omega) (by omega) hL) dL_law_878 ?_
  refine lw_cI h1 (fun kk => rp_callV_hI (As := [.int (xs (rI (i : Int) + rI 1).toNatClampNeg)]) (rest := []) (b := (E.2.2.2.1 0)) (rX6_swap σ (xs (rI (i : Int) + rI 1).toNatClampNeg)) cbX6_swap lkL_110 viX6_swap (rp_rcO sh0 rfl) rfl (Nat.le_of_ble_eq_true rfl) ⟨rfl, rfl, ⟨Nat.le_of_ble_eq_true rfl, Nat.le_of_ble_eq_true rfl⟩, Nat.le_of_ble_eq_true rfl, Nat.le_of_ble_eq_true rfl⟩ rfl (Nat.le_of_ble_eq_true rfl) dL_law_879 kk) ?_
  refine rp_aload_n (x := (E.2.2.2.1 28)) dL_law_882 rfl ?_
  refine rp_aload_n (x := b) dL_law_883 rfl ?_
  refine rp_iload_n (x := rI (i : Int)) dL_law_884 rfl ?_
  refine rp_iconst dL_law_885 ?_
  refine rp_iadd dL_law_886 ?_
  refine lw_sld (i := rI (i : Int) + rI 1) (lw_in (by omega) (by omega) hL) dL_law_887 ?_
  refine lw_cI h2 (fun kk => rp_callV_hI (As := [.int (xs (rI (i : Int) + rI 1).toNatClampNeg)]) (rest := [.int r]) (b := (E.2.2.2.1 28)) (rX7_swap σ1 (xs (rI (i : Int) + rI 1).toNatClampNeg)) cbX7_swap lkL_113 viX7_swap (rp_rcO sh28 rfl) rfl (Nat.le_of_ble_eq_true rfl) ⟨rfl, rfl, ⟨Nat.le_of_ble_eq_true rfl, Nat.le_of_ble_eq_true rfl⟩, Nat.le_of_ble_eq_true rfl, Nat.le_of_ble_eq_true rfl⟩ rfl (Nat.le_of_ble_eq_true rfl) dL_law_888 kk) ?_
  refine lw_eq (tgt := 1498) dL_law_891 (by decide) ?_
  exact nx σ2 h3
set_option maxRecDepth 100000 in
theorem lawc_24 {E : rp_E} {b L : Nat} {xs : Nat → Int32} {i : Nat} {σ : rp_S} (hi : i + 5 ≤ L) (hL : L ≤ 320) (hI : Inv σ) (nx : ∀ τ : rp_S, Inv τ → rp_R E (lw_K E b L xs) mL_law 1498 (lwv E b (rI (i : Int))) [] τ lw_h (some ())) : rp_R E (lw_K E b L xs) mL_law 896 (lwv E b (rI (i : Int))) [] σ lw_h (some ()) := by
  obtain ⟨r, σ1, σ2, h1, h2, h3⟩ := op_lose hI (xs (rI (i : Int) + rI 1).toNatClampNeg)
  refine rp_aload_n (x := (E.2.2.2.1 0)) dL_law_896 rfl ?_
  refine rp_aload_n (x := b) dL_law_897 rfl ?_
  refine rp_iload_n (x := rI (i : Int)) dL_law_898 rfl ?_
  refine rp_iconst dL_law_899 ?_
  refine rp_iadd dL_law_900 ?_
  refine lw_sld (i := rI (i : Int) + rI 1) (lw_in (by omega) (by omega) hL) dL_law_901 ?_
  refine lw_cI h1 (fun kk => rp_callV_hI (As := [.int (xs (rI (i : Int) + rI 1).toNatClampNeg)]) (rest := []) (b := (E.2.2.2.1 0)) (rX6_lose σ (xs (rI (i : Int) + rI 1).toNatClampNeg)) cbX6_lose lkL_114 viX6_lose (rp_rcO sh0 rfl) rfl (Nat.le_of_ble_eq_true rfl) ⟨rfl, rfl, ⟨Nat.le_of_ble_eq_true rfl, Nat.le_of_ble_eq_true rfl⟩, Nat.le_of_ble_eq_true rfl, Nat.le_of_ble_eq_true rfl⟩ rfl (Nat.le_of_ble_eq_true rfl) dL_law_902 kk) ?_
  refine rp_aload_n (x := (E.2.2.2.1 28)) dL_law_905 rfl ?_
  refine rp_aload_n (x := b) dL_law_906 rfl ?_
  refine rp_iload_n (x := rI (i : Int)) dL_law_907 rfl ?_
  refine rp_iconst dL_law_908 ?_
  refine rp_iadd dL_law_909 ?_
  refine lw_sld (i := rI (i : Int) + rI 1) (lw_in (by omega) (by omega) hL) dL_law_910 ?_
  refine lw_cI h2 (fun kk => rp_callV_hI (As := [.int (xs (rI (i : Int) + rI 1).toNatClampNeg)]) (rest := [.int r]) (b := (E.2.2.2.1 28)) (rX7_lose σ1 (xs (rI (i : Int) + rI 1).toNatClampNeg)) cbX7_lose lkL_117 viX7_lose (rp_rcO sh28 rfl) rfl (Nat.le_of_ble_eq_true rfl) ⟨rfl, rfl, ⟨Nat.le_of_ble_eq_true rfl, Nat.le_of_ble_eq_true rfl⟩, Nat.le_of_ble_eq_true rfl, Nat.le_of_ble_eq_true rfl⟩ rfl (Nat.le_of_ble_eq_true rfl) dL_law_911 kk) ?_
  refine lw_eq (tgt := 1498) dL_law_914 (by decide) ?_
  exact nx σ2 h3
set_option maxRecDepth 100000 in
theorem lawc_25 {E : rp_E} {b L : Nat} {xs : Nat → Int32} {i : Nat} {σ : rp_S} (hi : i + 5 ≤ L) (hL : L ≤ 320) (hI : Inv σ) (nx : ∀ τ : rp_S, Inv τ → rp_R E (lw_K E b L xs) mL_law 1498 (lwv E b (rI (i : Int))) [] τ lw_h (some ())) : rp_R E (lw_K E b L xs) mL_law 919 (lwv E b (rI (i : Int))) [] σ lw_h (some ()) := by
  obtain ⟨r, σ1, σ2, h1, h2, h3⟩ := op_need hI (xs (rI (i : Int) + rI 1).toNatClampNeg) (xs (rI (i : Int) + rI 2).toNatClampNeg)
  refine rp_aload_n (x := (E.2.2.2.1 0)) dL_law_919 rfl ?_
  refine rp_aload_n (x := b) dL_law_920 rfl ?_
  refine rp_iload_n (x := rI (i : Int)) dL_law_921 rfl ?_
  refine rp_iconst dL_law_922 ?_
  refine rp_iadd dL_law_923 ?_
  refine lw_sld (i := rI (i : Int) + rI 1) (lw_in (by omega) (by omega) hL) dL_law_924 ?_
  refine rp_aload_n (x := b) dL_law_925 rfl ?_
  refine rp_iload_n (x := rI (i : Int)) dL_law_926 rfl ?_
  refine rp_iconst dL_law_927 ?_
  refine rp_iadd dL_law_928 ?_
  refine lw_sld (i := rI (i : Int) + rI 2) (lw_in (by omega) (by omega) hL) dL_law_929 ?_
  refine lw_cI h1 (fun kk => rp_callV_hI (As := [.int (xs (rI (i : Int) + rI 1).toNatClampNeg), .int (xs (rI (i : Int) + rI 2).toNatClampNeg)]) (rest := []) (b := (E.2.2.2.1 0)) (rX6_need σ (xs (rI (i : Int) + rI 1).toNatClampNeg) (xs (rI (i : Int) + rI 2).toNatClampNeg)) cbX6_need lkL_118 viX6_need (rp_rcO sh0 rfl) rfl (Nat.le_of_ble_eq_true rfl) ⟨rfl, rfl, ⟨Nat.le_of_ble_eq_true rfl, Nat.le_of_ble_eq_true rfl⟩, Nat.le_of_ble_eq_true rfl, Nat.le_of_ble_eq_true rfl⟩ rfl (Nat.le_of_ble_eq_true rfl) dL_law_930 kk) ?_
  refine rp_aload_n (x := (E.2.2.2.1 28)) dL_law_933 rfl ?_
  refine rp_aload_n (x := b) dL_law_934 rfl ?_
  refine rp_iload_n (x := rI (i : Int)) dL_law_935 rfl ?_
  refine rp_iconst dL_law_936 ?_
  refine rp_iadd dL_law_937 ?_
  refine lw_sld (i := rI (i : Int) + rI 1) (lw_in (by omega) (by omega) hL) dL_law_938 ?_
  refine rp_aload_n (x := b) dL_law_939 rfl ?_
  refine rp_iload_n (x := rI (i : Int)) dL_law_940 rfl ?_
  refine rp_iconst dL_law_941 ?_
  refine rp_iadd dL_law_942 ?_
  refine lw_sld (i := rI (i : Int) + rI 2) (lw_in (by omega) (by omega) hL) dL_law_943 ?_
  refine lw_cI h2 (fun kk => rp_callV_hI (As := [.int (xs (rI (i : Int) + rI 1).toNatClampNeg), .int (xs (rI (i : Int) + rI 2).toNatClampNeg)]) (rest := [.int r]) (b := (E.2.2.2.1 28)) (rX7_need σ1 (xs (rI (i : Int) + rI 1).toNatClampNeg) (xs (rI (i : Int) + rI 2).toNatClampNeg)) cbX7_need lkL_121 viX7_need (rp_rcO sh28 rfl) rfl (Nat.le_of_ble_eq_true rfl) ⟨rfl, rfl, ⟨Nat.le_of_ble_eq_true rfl, Nat.le_of_ble_eq_true rfl⟩, Nat.le_of_ble_eq_true rfl, Nat.le_of_ble_eq_true rfl⟩ rfl (Nat.le_of_ble_eq_true rfl) dL_law_944 kk) ?_
  refine lw_eq (tgt := 1498) dL_law_947 (by decide) ?_
  exact nx σ2 h3
set_option maxRecDepth 100000 in
theorem lawc_26 {E : rp_E} {b L : Nat} {xs : Nat → Int32} {i : Nat} {σ : rp_S} (hi : i + 5 ≤ L) (hL : L ≤ 320) (hI : Inv σ) (nx : ∀ τ : rp_S, Inv τ → rp_R E (lw_K E b L xs) mL_law 1498 (lwv E b (rI (i : Int))) [] τ lw_h (some ())) : rp_R E (lw_K E b L xs) mL_law 952 (lwv E b (rI (i : Int))) [] σ lw_h (some ()) := by
  obtain ⟨r, σ1, σ2, h1, h2, h3⟩ := op_dry hI (xs (rI (i : Int) + rI 1).toNatClampNeg)
  refine rp_aload_n (x := (E.2.2.2.1 0)) dL_law_952 rfl ?_
  refine rp_aload_n (x := b) dL_law_953 rfl ?_
  refine rp_iload_n (x := rI (i : Int)) dL_law_954 rfl ?_
  refine rp_iconst dL_law_955 ?_
  refine rp_iadd dL_law_956 ?_
  refine lw_sld (i := rI (i : Int) + rI 1) (lw_in (by omega) (by omega) hL) dL_law_957 ?_
  refine lw_cI h1 (fun kk => rp_callV_hI (As := [.int (xs (rI (i : Int) + rI 1).toNatClampNeg)]) (rest := []) (b := (E.2.2.2.1 0)) (rX6_dry σ (xs (rI (i : Int) + rI 1).toNatClampNeg)) cbX6_dry lkL_122 viX6_dry (rp_rcO sh0 rfl) rfl (Nat.le_of_ble_eq_true rfl) ⟨rfl, rfl, ⟨Nat.le_of_ble_eq_true rfl, Nat.le_of_ble_eq_true rfl⟩, Nat.le_of_ble_eq_true rfl, Nat.le_of_ble_eq_true rfl⟩ rfl (Nat.le_of_ble_eq_true rfl) dL_law_958 kk) ?_
  refine rp_aload_n (x := (E.2.2.2.1 28)) dL_law_961 rfl ?_
  refine rp_aload_n (x := b) dL_law_962 rfl ?_
  refine rp_iload_n (x := rI (i : Int)) dL_law_963 rfl ?_
  refine rp_iconst dL_law_964 ?_
  refine rp_iadd dL_law_965 ?_
  refine lw_sld (i := rI (i : Int) + rI 1) (lw_in (by omega) (by omega) hL) dL_law_966 ?_
  refine lw_cI h2 (fun kk => rp_callV_hI (As := [.int (xs (rI (i : Int) + rI 1).toNatClampNeg)]) (rest := [.int r]) (b := (E.2.2.2.1 28)) (rX7_dry σ1 (xs (rI (i : Int) + rI 1).toNatClampNeg)) cbX7_dry lkL_125 viX7_dry (rp_rcO sh28 rfl) rfl (Nat.le_of_ble_eq_true rfl) ⟨rfl, rfl, ⟨Nat.le_of_ble_eq_true rfl, Nat.le_of_ble_eq_true rfl⟩, Nat.le_of_ble_eq_true rfl, Nat.le_of_ble_eq_true rfl⟩ rfl (Nat.le_of_ble_eq_true rfl) dL_law_967 kk) ?_
  refine lw_eq (tgt := 1498) dL_law_970 (by decide) ?_
  exact nx σ2 h3
set_option maxRecDepth 100000 in
theorem lawc_27 {E : rp_E} {b L : Nat} {xs : Nat → Int32} {i : Nat} {σ : rp_S} (hi : i + 5 ≤ L) (hL : L ≤ 320) (hI : Inv σ) (nx : ∀ τ : rp_S, Inv τ → rp_R E (lw_K E b L xs) mL_law 1498 (lwv E b (rI (i : Int))) [] τ lw_h (some ())) : rp_R E (lw_K E b L xs) mL_law 975 (lwv E b (rI (i : Int))) [] σ lw_h (some ()) := by
  obtain ⟨r, σ1, σ2, h1, h2, h3⟩ := op_kind hI (xs (rI (i : Int) + rI 1).toNatClampNeg) (xs (rI (i : Int) + rI 2).toNatClampNeg)
  refine rp_aload_n (x := (E.2.2.2.1 0)) dL_law_975 rfl ?_
  refine rp_aload_n (x := b) dL_law_976 rfl ?_
  refine rp_iload_n (x := rI (i : Int)) dL_law_977 rfl ?_
  refine rp_iconst dL_law_978 ?_
  refine rp_iadd dL_law_979 ?_
  refine lw_sld (i := rI (i : Int) + rI 1) (lw_in (by omega) (by omega) hL) dL_law_980 ?_
  refine rp_aload_n (x := b) dL_law_981 rfl ?_
  refine rp_iload_n (x := rI (i : Int)) dL_law_982 rfl ?_
  refine rp_iconst dL_law_983 ?_
  refine rp_iadd dL_law_984 ?_
  refine lw_sld (i := rI (i : Int) + rI 2) (lw_in (by omega) (by omega) hL) dL_law_985 ?_
  refine lw_cI h1 (fun kk => rp_callV_hI (As := [.int (xs (rI (i : Int) + rI 1).toNatClampNeg), .int (xs (rI (i : Int) + rI 2).toNatClampNeg)]) (rest := []) (b := (E.2.2.2.1 0)) (rX6_kind σ (xs (rI (i : Int) + rI 1).toNatClampNeg) (xs (rI (i : Int) + rI 2).toNatClampNeg)) cbX6_kind lkL_126 viX6_kind (rp_rcO sh0 rfl) rfl (Nat.le_of_ble_eq_true rfl) ⟨rfl, rfl, ⟨Nat.le_of_ble_eq_true rfl, Nat.le_of_ble_eq_true rfl⟩, Nat.le_of_ble_eq_true rfl, Nat.le_of_ble_eq_true rfl⟩ rfl (Nat.le_of_ble_eq_true rfl) dL_law_986 kk) ?_
  refine rp_aload_n (x := (E.2.2.2.1 28)) dL_law_989 rfl ?_
  refine rp_aload_n (x := b) dL_law_990 rfl ?_
  refine rp_iload_n (x := rI (i : Int)) dL_law_991 rfl ?_
  refine rp_iconst dL_law_992 ?_
  refine rp_iadd dL_law_993 ?_
  refine lw_sld (i := rI (i : Int) + rI 1) (lw_in (by omega) (by omega) hL) dL_law_994 ?_
  refine rp_aload_n (x := b) dL_law_995 rfl ?_
  refine rp_iload_n (x := rI (i : Int)) dL_law_996 rfl ?_
  refine rp_iconst dL_law_997 ?_
  refine rp_iadd dL_law_998 ?_
  refine lw_sld (i := rI (i : Int) + rI 2) (lw_in (by omega) (by omega) hL) dL_law_999 ?_
  refine lw_cI h2 (fun kk => rp_callV_hI (As := [.int (xs (rI (i : Int) + rI 1).toNatClampNeg), .int (xs (rI (i : Int) + rI 2).toNatClampNeg)]) (rest := [.int r]) (b := (E.2.2.2.1 28)) (rX7_kind σ1 (xs (rI (i : Int) + rI 1).toNatClampNeg) (xs (rI (i : Int) + rI 2).toNatClampNeg)) cbX7_kind lkL_129 viX7_kind (rp_rcO sh28 rfl) rfl (Nat.le_of_ble_eq_true rfl) ⟨rfl, rfl, ⟨Nat.le_of_ble_eq_true rfl, Nat.le_of_ble_eq_true rfl⟩, Nat.le_of_ble_eq_true rfl, Nat.le_of_ble_eq_true rfl⟩ rfl (Nat.le_of_ble_eq_true rfl) dL_law_1000 kk) ?_
  refine lw_eq (tgt := 1498) dL_law_1003 (by decide) ?_
  exact nx σ2 h3
set_option maxRecDepth 100000 in
theorem lawc_28 {E : rp_E} {b L : Nat} {xs : Nat → Int32} {i : Nat} {σ : rp_S} (hi : i + 5 ≤ L) (hL : L ≤ 320) (hI : Inv σ) (nx : ∀ τ : rp_S, Inv τ → rp_R E (lw_K E b L xs) mL_law 1498 (lwv E b (rI (i : Int))) [] τ lw_h (some ())) : rp_R E (lw_K E b L xs) mL_law 1008 (lwv E b (rI (i : Int))) [] σ lw_h (some ()) := by
  obtain ⟨r, σ1, σ2, h1, h2, h3⟩ := op_luck hI (xs (rI (i : Int) + rI 1).toNatClampNeg) (xs (rI (i : Int) + rI 2).toNatClampNeg) (xs (rI (i : Int) + rI 3).toNatClampNeg) (xs (rI (i : Int) + rI 4).toNatClampNeg)
  refine rp_aload_n (x := (E.2.2.2.1 0)) dL_law_1008 rfl ?_
  refine rp_aload_n (x := b) dL_law_1009 rfl ?_
  refine rp_iload_n (x := rI (i : Int)) dL_law_1010 rfl ?_
  refine rp_iconst dL_law_1011 ?_
  refine rp_iadd dL_law_1012 ?_
  refine lw_sld (i := rI (i : Int) + rI 1) (lw_in (by omega) (by omega) hL) dL_law_1013 ?_
  refine rp_aload_n (x := b) dL_law_1014 rfl ?_
  refine rp_iload_n (x := rI (i : Int)) dL_law_1015 rfl ?_
  refine rp_iconst dL_law_1016 ?_
  refine rp_iadd dL_law_1017 ?_
  refine lw_sld (i := rI (i : Int) + rI 2) (lw_in (by omega) (by omega) hL) dL_law_1018 ?_
  refine rp_aload_n (x := b) dL_law_1019 rfl ?_
  refine rp_iload_n (x := rI (i : Int)) dL_law_1020 rfl ?_
  refine rp_iconst dL_law_1021 ?_
  refine rp_iadd dL_law_1022 ?_
  refine lw_sld (i := rI (i : Int) + rI 3) (lw_in (by omega) (by omega) hL) dL_law_1023 ?_
  refine rp_aload_n (x := b) dL_law_1024 rfl ?_
  refine rp_iload_n (x := rI (i : Int)) dL_law_1025 rfl ?_
  refine rp_iconst dL_law_1026 ?_
  refine rp_iadd dL_law_1027 ?_
  refine lw_sld (i := rI (i : Int) + rI 4) (lw_in (by omega) (by omega) hL) dL_law_1028 ?_
  refine lw_cL h1 (fun kk => rp_callV_hL (As := [.int (xs (rI (i : Int) + rI 1).toNatClampNeg), .int (xs (rI (i : Int) + rI 2).toNatClampNeg), .int (xs (rI (i : Int) + rI 3).toNatClampNeg), .int (xs (rI (i : Int) + rI 4).toNatClampNeg)]) (rest := []) (b := (E.2.2.2.1 0)) (rX6_luck σ (xs (rI (i : Int) + rI 1).toNatClampNeg) (xs (rI (i : Int) + rI 2).toNatClampNeg) (xs (rI (i : Int) + rI 3).toNatClampNeg) (xs (rI (i : Int) + rI 4).toNatClampNeg)) cbX6_luck lkL_130 viX6_luck (rp_rcO sh0 rfl) rfl (Nat.le_of_ble_eq_true rfl) ⟨rfl, rfl, ⟨Nat.le_of_ble_eq_true rfl, Nat.le_of_ble_eq_true rfl⟩, Nat.le_of_ble_eq_true rfl, Nat.le_of_ble_eq_true rfl⟩ rfl (Nat.le_of_ble_eq_true rfl) dL_law_1029 kk) ?_
  refine rp_aload_n (x := (E.2.2.2.1 28)) dL_law_1032 rfl ?_
  refine rp_aload_n (x := b) dL_law_1033 rfl ?_
  refine rp_iload_n (x := rI (i : Int)) dL_law_1034 rfl ?_
  refine rp_iconst dL_law_1035 ?_
  refine rp_iadd dL_law_1036 ?_
  refine lw_sld (i := rI (i : Int) + rI 1) (lw_in (by omega) (by omega) hL) dL_law_1037 ?_
  refine rp_aload_n (x := b) dL_law_1038 rfl ?_
  refine rp_iload_n (x := rI (i : Int)) dL_law_1039 rfl ?_
  refine rp_iconst dL_law_1040 ?_
  refine rp_iadd dL_law_1041 ?_
  refine lw_sld (i := rI (i : Int) + rI 2) (lw_in (by omega) (by omega) hL) dL_law_1042 ?_
  refine rp_aload_n (x := b) dL_law_1043 rfl ?_
  refine rp_iload_n (x := rI (i : Int)) dL_law_1044 rfl ?_
  refine rp_iconst dL_law_1045 ?_
  refine rp_iadd dL_law_1046 ?_
  refine lw_sld (i := rI (i : Int) + rI 3) (lw_in (by omega) (by omega) hL) dL_law_1047 ?_
  refine rp_aload_n (x := b) dL_law_1048 rfl ?_
  refine rp_iload_n (x := rI (i : Int)) dL_law_1049 rfl ?_
  refine rp_iconst dL_law_1050 ?_
  refine rp_iadd dL_law_1051 ?_
  refine lw_sld (i := rI (i : Int) + rI 4) (lw_in (by omega) (by omega) hL) dL_law_1052 ?_
  refine lw_cL h2 (fun kk => rp_callV_hL (As := [.int (xs (rI (i : Int) + rI 1).toNatClampNeg), .int (xs (rI (i : Int) + rI 2).toNatClampNeg), .int (xs (rI (i : Int) + rI 3).toNatClampNeg), .int (xs (rI (i : Int) + rI 4).toNatClampNeg)]) (rest := [.long r]) (b := (E.2.2.2.1 28)) (rX7_luck σ1 (xs (rI (i : Int) + rI 1).toNatClampNeg) (xs (rI (i : Int) + rI 2).toNatClampNeg) (xs (rI (i : Int) + rI 3).toNatClampNeg) (xs (rI (i : Int) + rI 4).toNatClampNeg)) cbX7_luck lkL_134 viX7_luck (rp_rcO sh28 rfl) rfl (Nat.le_of_ble_eq_true rfl) ⟨rfl, rfl, ⟨Nat.le_of_ble_eq_true rfl, Nat.le_of_ble_eq_true rfl⟩, Nat.le_of_ble_eq_true rfl, Nat.le_of_ble_eq_true rfl⟩ rfl (Nat.le_of_ble_eq_true rfl) dL_law_1053 kk) ?_
  refine lw_leq (tgt := 1498) dL_law_1056 dL_law_1057 (by decide) ?_
  exact nx σ2 h3
set_option maxRecDepth 100000 in
theorem lawc_29 {E : rp_E} {b L : Nat} {xs : Nat → Int32} {i : Nat} {σ : rp_S} (hi : i + 5 ≤ L) (hL : L ≤ 320) (hI : Inv σ) (nx : ∀ τ : rp_S, Inv τ → rp_R E (lw_K E b L xs) mL_law 1498 (lwv E b (rI (i : Int))) [] τ lw_h (some ())) : rp_R E (lw_K E b L xs) mL_law 1062 (lwv E b (rI (i : Int))) [] σ lw_h (some ()) := by
  obtain ⟨r, σ1, σ2, h1, h2, h3⟩ := op_mean hI (xs (rI (i : Int) + rI 1).toNatClampNeg) (xs (rI (i : Int) + rI 2).toNatClampNeg)
  refine rp_aload_n (x := (E.2.2.2.1 0)) dL_law_1062 rfl ?_
  refine rp_aload_n (x := b) dL_law_1063 rfl ?_
  refine rp_iload_n (x := rI (i : Int)) dL_law_1064 rfl ?_
  refine rp_iconst dL_law_1065 ?_
  refine rp_iadd dL_law_1066 ?_
  refine lw_sld (i := rI (i : Int) + rI 1) (lw_in (by omega) (by omega) hL) dL_law_1067 ?_
  refine rp_aload_n (x := b) dL_law_1068 rfl ?_
  refine rp_iload_n (x := rI (i : Int)) dL_law_1069 rfl ?_
  refine rp_iconst dL_law_1070 ?_
  refine rp_iadd dL_law_1071 ?_
  refine lw_sld (i := rI (i : Int) + rI 2) (lw_in (by omega) (by omega) hL) dL_law_1072 ?_
  refine lw_cL h1 (fun kk => rp_callV_hL (As := [.int (xs (rI (i : Int) + rI 1).toNatClampNeg), .int (xs (rI (i : Int) + rI 2).toNatClampNeg)]) (rest := []) (b := (E.2.2.2.1 0)) (rX6_mean σ (xs (rI (i : Int) + rI 1).toNatClampNeg) (xs (rI (i : Int) + rI 2).toNatClampNeg)) cbX6_mean lkL_135 viX6_mean (rp_rcO sh0 rfl) rfl (Nat.le_of_ble_eq_true rfl) ⟨rfl, rfl, ⟨Nat.le_of_ble_eq_true rfl, Nat.le_of_ble_eq_true rfl⟩, Nat.le_of_ble_eq_true rfl, Nat.le_of_ble_eq_true rfl⟩ rfl (Nat.le_of_ble_eq_true rfl) dL_law_1073 kk) ?_
  refine rp_aload_n (x := (E.2.2.2.1 28)) dL_law_1076 rfl ?_
  refine rp_aload_n (x := b) dL_law_1077 rfl ?_
  refine rp_iload_n (x := rI (i : Int)) dL_law_1078 rfl ?_
  refine rp_iconst dL_law_1079 ?_
  refine rp_iadd dL_law_1080 ?_
  refine lw_sld (i := rI (i : Int) + rI 1) (lw_in (by omega) (by omega) hL) dL_law_1081 ?_
  refine rp_aload_n (x := b) dL_law_1082 rfl ?_
  refine rp_iload_n (x := rI (i : Int)) dL_law_1083 rfl ?_
  refine rp_iconst dL_law_1084 ?_
  refine rp_iadd dL_law_1085 ?_
  refine lw_sld (i := rI (i : Int) + rI 2) (lw_in (by omega) (by omega) hL) dL_law_1086 ?_
  refine lw_cL h2 (fun kk => rp_callV_hL (As := [.int (xs (rI (i : Int) + rI 1).toNatClampNeg), .int (xs (rI (i : Int) + rI 2).toNatClampNeg)]) (rest := [.long r]) (b := (E.2.2.2.1 28)) (rX7_mean σ1 (xs (rI (i : Int) + rI 1).toNatClampNeg) (xs (rI (i : Int) + rI 2).toNatClampNeg)) cbX7_mean lkL_139 viX7_mean (rp_rcO sh28 rfl) rfl (Nat.le_of_ble_eq_true rfl) ⟨rfl, rfl, ⟨Nat.le_of_ble_eq_true rfl, Nat.le_of_ble_eq_true rfl⟩, Nat.le_of_ble_eq_true rfl, Nat.le_of_ble_eq_true rfl⟩ rfl (Nat.le_of_ble_eq_true rfl) dL_law_1087 kk) ?_
  refine lw_leq (tgt := 1498) dL_law_1090 dL_law_1091 (by decide) ?_
  exact nx σ2 h3
set_option maxRecDepth 100000 in
theorem lawc_30 {E : rp_E} {b L : Nat} {xs : Nat → Int32} {i : Nat} {σ : rp_S} (hi : i + 5 ≤ L) (hL : L ≤ 320) (hI : Inv σ) (nx : ∀ τ : rp_S, Inv τ → rp_R E (lw_K E b L xs) mL_law 1498 (lwv E b (rI (i : Int))) [] τ lw_h (some ())) : rp_R E (lw_K E b L xs) mL_law 1096 (lwv E b (rI (i : Int))) [] σ lw_h (some ()) := by
  obtain ⟨r, σ1, σ2, h1, h2, h3⟩ := op_see hI (xs (rI (i : Int) + rI 1).toNatClampNeg) (xs (rI (i : Int) + rI 2).toNatClampNeg)
  refine rp_aload_n (x := (E.2.2.2.1 0)) dL_law_1096 rfl ?_
  refine rp_aload_n (x := b) dL_law_1097 rfl ?_
  refine rp_iload_n (x := rI (i : Int)) dL_law_1098 rfl ?_
  refine rp_iconst dL_law_1099 ?_
  refine rp_iadd dL_law_1100 ?_
  refine lw_sld (i := rI (i : Int) + rI 1) (lw_in (by omega) (by omega) hL) dL_law_1101 ?_
  refine rp_aload_n (x := b) dL_law_1102 rfl ?_
  refine rp_iload_n (x := rI (i : Int)) dL_law_1103 rfl ?_
  refine rp_iconst dL_law_1104 ?_
  refine rp_iadd dL_law_1105 ?_
  refine lw_sld (i := rI (i : Int) + rI 2) (lw_in (by omega) (by omega) hL) dL_law_1106 ?_
  refine lw_cI h1 (fun kk => rp_callV_hI (As := [.int (xs (rI (i : Int) + rI 1).toNatClampNeg), .int (xs (rI (i : Int) + rI 2).toNatClampNeg)]) (rest := []) (b := (E.2.2.2.1 0)) (rX6_see σ (xs (rI (i : Int) + rI 1).toNatClampNeg) (xs (rI (i : Int) + rI 2).toNatClampNeg)) cbX6_see lkL_140 viX6_see (rp_rcO sh0 rfl) rfl (Nat.le_of_ble_eq_true rfl) ⟨rfl, rfl, ⟨Nat.le_of_ble_eq_true rfl, Nat.le_of_ble_eq_true rfl⟩, Nat.le_of_ble_eq_true rfl, Nat.le_of_ble_eq_true rfl⟩ rfl (Nat.le_of_ble_eq_true rfl) dL_law_1107 kk) ?_
  refine rp_aload_n (x := (E.2.2.2.1 28)) dL_law_1110 rfl ?_
  refine rp_aload_n (x := b) dL_law_1111 rfl ?_
  refine rp_iload_n (x := rI (i : Int)) dL_law_1112 rfl ?_
  refine rp_iconst dL_law_1113 ?_
  refine rp_iadd dL_law_1114 ?_
  refine lw_sld (i := rI (i : Int) + rI 1) (lw_in (by omega) (by omega) hL) dL_law_1115 ?_
  refine rp_aload_n (x := b) dL_law_1116 rfl ?_
  refine rp_iload_n (x := rI (i : Int)) dL_law_1117 rfl ?_
  refine rp_iconst dL_law_1118 ?_
  refine rp_iadd dL_law_1119 ?_
  refine lw_sld (i := rI (i : Int) + rI 2) (lw_in (by omega) (by omega) hL) dL_law_1120 ?_
  refine lw_cI h2 (fun kk => rp_callV_hI (As := [.int (xs (rI (i : Int) + rI 1).toNatClampNeg), .int (xs (rI (i : Int) + rI 2).toNatClampNeg)]) (rest := [.int r]) (b := (E.2.2.2.1 28)) (rX7_see σ1 (xs (rI (i : Int) + rI 1).toNatClampNeg) (xs (rI (i : Int) + rI 2).toNatClampNeg)) cbX7_see lkL_143 viX7_see (rp_rcO sh28 rfl) rfl (Nat.le_of_ble_eq_true rfl) ⟨rfl, rfl, ⟨Nat.le_of_ble_eq_true rfl, Nat.le_of_ble_eq_true rfl⟩, Nat.le_of_ble_eq_true rfl, Nat.le_of_ble_eq_true rfl⟩ rfl (Nat.le_of_ble_eq_true rfl) dL_law_1121 kk) ?_
  refine lw_eq (tgt := 1498) dL_law_1124 (by decide) ?_
  exact nx σ2 h3
set_option maxRecDepth 100000 in
theorem lawc_31 {E : rp_E} {b L : Nat} {xs : Nat → Int32} {i : Nat} {σ : rp_S} (hi : i + 5 ≤ L) (hL : L ≤ 320) (hI : Inv σ) (nx : ∀ τ : rp_S, Inv τ → rp_R E (lw_K E b L xs) mL_law 1498 (lwv E b (rI (i : Int))) [] τ lw_h (some ())) : rp_R E (lw_K E b L xs) mL_law 1129 (lwv E b (rI (i : Int))) [] σ lw_h (some ()) := by
  obtain ⟨r, σ1, σ2, h1, h2, h3⟩ := op_forget hI (xs (rI (i : Int) + rI 1).toNatClampNeg)
  refine rp_aload_n (x := (E.2.2.2.1 0)) dL_law_1129 rfl ?_
  refine rp_aload_n (x := b) dL_law_1130 rfl ?_
  refine rp_iload_n (x := rI (i : Int)) dL_law_1131 rfl ?_
  refine rp_iconst dL_law_1132 ?_
  refine rp_iadd dL_law_1133 ?_
  refine lw_sld (i := rI (i : Int) + rI 1) (lw_in (by omega) (by omega) hL) dL_law_1134 ?_
  refine lw_cI h1 (fun kk => rp_callV_hI (As := [.int (xs (rI (i : Int) + rI 1).toNatClampNeg)]) (rest := []) (b := (E.2.2.2.1 0)) (rX6_forget σ (xs (rI (i : Int) + rI 1).toNatClampNeg)) cbX6_forget lkL_144 viX6_forget (rp_rcO sh0 rfl) rfl (Nat.le_of_ble_eq_true rfl) ⟨rfl, rfl, ⟨Nat.le_of_ble_eq_true rfl, Nat.le_of_ble_eq_true rfl⟩, Nat.le_of_ble_eq_true rfl, Nat.le_of_ble_eq_true rfl⟩ rfl (Nat.le_of_ble_eq_true rfl) dL_law_1135 kk) ?_
  refine rp_aload_n (x := (E.2.2.2.1 28)) dL_law_1138 rfl ?_
  refine rp_aload_n (x := b) dL_law_1139 rfl ?_
  refine rp_iload_n (x := rI (i : Int)) dL_law_1140 rfl ?_
  refine rp_iconst dL_law_1141 ?_
  refine rp_iadd dL_law_1142 ?_
  refine lw_sld (i := rI (i : Int) + rI 1) (lw_in (by omega) (by omega) hL) dL_law_1143 ?_
  refine lw_cI h2 (fun kk => rp_callV_hI (As := [.int (xs (rI (i : Int) + rI 1).toNatClampNeg)]) (rest := [.int r]) (b := (E.2.2.2.1 28)) (rX7_forget σ1 (xs (rI (i : Int) + rI 1).toNatClampNeg)) cbX7_forget lkL_147 viX7_forget (rp_rcO sh28 rfl) rfl (Nat.le_of_ble_eq_true rfl) ⟨rfl, rfl, ⟨Nat.le_of_ble_eq_true rfl, Nat.le_of_ble_eq_true rfl⟩, Nat.le_of_ble_eq_true rfl, Nat.le_of_ble_eq_true rfl⟩ rfl (Nat.le_of_ble_eq_true rfl) dL_law_1144 kk) ?_
  refine lw_eq (tgt := 1498) dL_law_1147 (by decide) ?_
  exact nx σ2 h3
set_option maxRecDepth 100000 in
theorem lawc_32 {E : rp_E} {b L : Nat} {xs : Nat → Int32} {i : Nat} {σ : rp_S} (hi : i + 5 ≤ L) (hL : L ≤ 320) (hI : Inv σ) (nx : ∀ τ : rp_S, Inv τ → rp_R E (lw_K E b L xs) mL_law 1498 (lwv E b (rI (i : Int))) [] τ lw_h (some ())) : rp_R E (lw_K E b L xs) mL_law 1152 (lwv E b (rI (i : Int))) [] σ lw_h (some ()) := by
  obtain ⟨r, σ1, σ2, h1, h2, h3⟩ := op_winds hI
  refine rp_aload_n (x := (E.2.2.2.1 0)) dL_law_1152 rfl ?_
  refine lw_cI h1 (fun kk => rp_callV_hI (As := []) (rest := []) (b := (E.2.2.2.1 0)) (rX6_winds σ) cbX6_winds lkL_148 viX6_winds (rp_rcO sh0 rfl) rfl (Nat.le_of_ble_eq_true rfl) ⟨rfl, rfl, ⟨Nat.le_of_ble_eq_true rfl, Nat.le_of_ble_eq_true rfl⟩, Nat.le_of_ble_eq_true rfl, Nat.le_of_ble_eq_true rfl⟩ rfl (Nat.le_of_ble_eq_true rfl) dL_law_1153 kk) ?_
  refine rp_aload_n (x := (E.2.2.2.1 28)) dL_law_1156 rfl ?_
  refine lw_cI h2 (fun kk => rp_callV_hI (As := []) (rest := [.int r]) (b := (E.2.2.2.1 28)) (rX7_winds σ1) cbX7_winds lkL_151 viX7_winds (rp_rcO sh28 rfl) rfl (Nat.le_of_ble_eq_true rfl) ⟨rfl, rfl, ⟨Nat.le_of_ble_eq_true rfl, Nat.le_of_ble_eq_true rfl⟩, Nat.le_of_ble_eq_true rfl, Nat.le_of_ble_eq_true rfl⟩ rfl (Nat.le_of_ble_eq_true rfl) dL_law_1157 kk) ?_
  refine lw_eq (tgt := 1498) dL_law_1160 (by decide) ?_
  exact nx σ2 h3
set_option maxRecDepth 100000 in
theorem lawc_33 {E : rp_E} {b L : Nat} {xs : Nat → Int32} {i : Nat} {σ : rp_S} (hi : i + 5 ≤ L) (hL : L ≤ 320) (hI : Inv σ) (nx : ∀ τ : rp_S, Inv τ → rp_R E (lw_K E b L xs) mL_law 1498 (lwv E b (rI (i : Int))) [] τ lw_h (some ())) : rp_R E (lw_K E b L xs) mL_law 1165 (lwv E b (rI (i : Int))) [] σ lw_h (some ()) := by
  obtain ⟨r, σ1, σ2, h1, h2, h3⟩ := op_froms hI (xs (rI (i : Int) + rI 1).toNatClampNeg)
  refine rp_aload_n (x := (E.2.2.2.1 0)) dL_law_1165 rfl ?_
  refine rp_aload_n (x := b) dL_law_1166 rfl ?_
  refine rp_iload_n (x := rI (i : Int)) dL_law_1167 rfl ?_
  refine rp_iconst dL_law_1168 ?_
  refine rp_iadd dL_law_1169 ?_
  refine lw_sld (i := rI (i : Int) + rI 1) (lw_in (by omega) (by omega) hL) dL_law_1170 ?_
  refine lw_cI h1 (fun kk => rp_callV_hI (As := [.int (xs (rI (i : Int) + rI 1).toNatClampNeg)]) (rest := []) (b := (E.2.2.2.1 0)) (rX6_froms σ (xs (rI (i : Int) + rI 1).toNatClampNeg)) cbX6_froms lkL_152 viX6_froms (rp_rcO sh0 rfl) rfl (Nat.le_of_ble_eq_true rfl) ⟨rfl, rfl, ⟨Nat.le_of_ble_eq_true rfl, Nat.le_of_ble_eq_true rfl⟩, Nat.le_of_ble_eq_true rfl, Nat.le_of_ble_eq_true rfl⟩ rfl (Nat.le_of_ble_eq_true rfl) dL_law_1171 kk) ?_
  refine rp_aload_n (x := (E.2.2.2.1 28)) dL_law_1174 rfl ?_
  refine rp_aload_n (x := b) dL_law_1175 rfl ?_
  refine rp_iload_n (x := rI (i : Int)) dL_law_1176 rfl ?_
  refine rp_iconst dL_law_1177 ?_
  refine rp_iadd dL_law_1178 ?_
  refine lw_sld (i := rI (i : Int) + rI 1) (lw_in (by omega) (by omega) hL) dL_law_1179 ?_
  refine lw_cI h2 (fun kk => rp_callV_hI (As := [.int (xs (rI (i : Int) + rI 1).toNatClampNeg)]) (rest := [.int r]) (b := (E.2.2.2.1 28)) (rX7_froms σ1 (xs (rI (i : Int) + rI 1).toNatClampNeg)) cbX7_froms lkL_155 viX7_froms (rp_rcO sh28 rfl) rfl (Nat.le_of_ble_eq_true rfl) ⟨rfl, rfl, ⟨Nat.le_of_ble_eq_true rfl, Nat.le_of_ble_eq_true rfl⟩, Nat.le_of_ble_eq_true rfl, Nat.le_of_ble_eq_true rfl⟩ rfl (Nat.le_of_ble_eq_true rfl) dL_law_1180 kk) ?_
  refine lw_eq (tgt := 1498) dL_law_1183 (by decide) ?_
  exact nx σ2 h3
set_option maxRecDepth 100000 in
theorem lawc_34 {E : rp_E} {b L : Nat} {xs : Nat → Int32} {i : Nat} {σ : rp_S} (hi : i + 5 ≤ L) (hL : L ≤ 320) (hI : Inv σ) (nx : ∀ τ : rp_S, Inv τ → rp_R E (lw_K E b L xs) mL_law 1498 (lwv E b (rI (i : Int))) [] τ lw_h (some ())) : rp_R E (lw_K E b L xs) mL_law 1188 (lwv E b (rI (i : Int))) [] σ lw_h (some ()) := by
  obtain ⟨r, σ1, σ2, h1, h2, h3⟩ := op_kinds hI (xs (rI (i : Int) + rI 1).toNatClampNeg)
  refine rp_aload_n (x := (E.2.2.2.1 0)) dL_law_1188 rfl ?_
  refine rp_aload_n (x := b) dL_law_1189 rfl ?_
  refine rp_iload_n (x := rI (i : Int)) dL_law_1190 rfl ?_
  refine rp_iconst dL_law_1191 ?_
  refine rp_iadd dL_law_1192 ?_
  refine lw_sld (i := rI (i : Int) + rI 1) (lw_in (by omega) (by omega) hL) dL_law_1193 ?_
  refine lw_cI h1 (fun kk => rp_callV_hI (As := [.int (xs (rI (i : Int) + rI 1).toNatClampNeg)]) (rest := []) (b := (E.2.2.2.1 0)) (rX6_kinds σ (xs (rI (i : Int) + rI 1).toNatClampNeg)) cbX6_kinds lkL_156 viX6_kinds (rp_rcO sh0 rfl) rfl (Nat.le_of_ble_eq_true rfl) ⟨rfl, rfl, ⟨Nat.le_of_ble_eq_true rfl, Nat.le_of_ble_eq_true rfl⟩, Nat.le_of_ble_eq_true rfl, Nat.le_of_ble_eq_true rfl⟩ rfl (Nat.le_of_ble_eq_true rfl) dL_law_1194 kk) ?_
  refine rp_aload_n (x := (E.2.2.2.1 28)) dL_law_1197 rfl ?_
  refine rp_aload_n (x := b) dL_law_1198 rfl ?_
  refine rp_iload_n (x := rI (i : Int)) dL_law_1199 rfl ?_
  refine rp_iconst dL_law_1200 ?_
  refine rp_iadd dL_law_1201 ?_
  refine lw_sld (i := rI (i : Int) + rI 1) (lw_in (by omega) (by omega) hL) dL_law_1202 ?_
  refine lw_cI h2 (fun kk => rp_callV_hI (As := [.int (xs (rI (i : Int) + rI 1).toNatClampNeg)]) (rest := [.int r]) (b := (E.2.2.2.1 28)) (rX7_kinds σ1 (xs (rI (i : Int) + rI 1).toNatClampNeg)) cbX7_kinds lkL_159 viX7_kinds (rp_rcO sh28 rfl) rfl (Nat.le_of_ble_eq_true rfl) ⟨rfl, rfl, ⟨Nat.le_of_ble_eq_true rfl, Nat.le_of_ble_eq_true rfl⟩, Nat.le_of_ble_eq_true rfl, Nat.le_of_ble_eq_true rfl⟩ rfl (Nat.le_of_ble_eq_true rfl) dL_law_1203 kk) ?_
  refine lw_eq (tgt := 1498) dL_law_1206 (by decide) ?_
  exact nx σ2 h3
set_option maxRecDepth 100000 in
theorem lawc_35 {E : rp_E} {b L : Nat} {xs : Nat → Int32} {i : Nat} {σ : rp_S} (hi : i + 5 ≤ L) (hL : L ≤ 320) (hI : Inv σ) (nx : ∀ τ : rp_S, Inv τ → rp_R E (lw_K E b L xs) mL_law 1498 (lwv E b (rI (i : Int))) [] τ lw_h (some ())) : rp_R E (lw_K E b L xs) mL_law 1211 (lwv E b (rI (i : Int))) [] σ lw_h (some ()) := by
  obtain ⟨r, σ1, σ2, h1, h2, h3⟩ := op_ask hI (xs (rI (i : Int) + rI 1).toNatClampNeg)
  refine rp_aload_n (x := (E.2.2.2.1 0)) dL_law_1211 rfl ?_
  refine rp_aload_n (x := b) dL_law_1212 rfl ?_
  refine rp_iload_n (x := rI (i : Int)) dL_law_1213 rfl ?_
  refine rp_iconst dL_law_1214 ?_
  refine rp_iadd dL_law_1215 ?_
  refine lw_sld (i := rI (i : Int) + rI 1) (lw_in (by omega) (by omega) hL) dL_law_1216 ?_
  refine lw_cI h1 (fun kk => rp_callV_hI (As := [.int (xs (rI (i : Int) + rI 1).toNatClampNeg)]) (rest := []) (b := (E.2.2.2.1 0)) (rX6_ask σ (xs (rI (i : Int) + rI 1).toNatClampNeg)) cbX6_ask lkL_160 viX6_ask (rp_rcO sh0 rfl) rfl (Nat.le_of_ble_eq_true rfl) ⟨rfl, rfl, ⟨Nat.le_of_ble_eq_true rfl, Nat.le_of_ble_eq_true rfl⟩, Nat.le_of_ble_eq_true rfl, Nat.le_of_ble_eq_true rfl⟩ rfl (Nat.le_of_ble_eq_true rfl) dL_law_1217 kk) ?_
  refine rp_aload_n (x := (E.2.2.2.1 28)) dL_law_1220 rfl ?_
  refine rp_aload_n (x := b) dL_law_1221 rfl ?_
  refine rp_iload_n (x := rI (i : Int)) dL_law_1222 rfl ?_
  refine rp_iconst dL_law_1223 ?_
  refine rp_iadd dL_law_1224 ?_
  refine lw_sld (i := rI (i : Int) + rI 1) (lw_in (by omega) (by omega) hL) dL_law_1225 ?_
  refine lw_cI h2 (fun kk => rp_callV_hI (As := [.int (xs (rI (i : Int) + rI 1).toNatClampNeg)]) (rest := [.int r]) (b := (E.2.2.2.1 28)) (rX7_ask σ1 (xs (rI (i : Int) + rI 1).toNatClampNeg)) cbX7_ask lkL_163 viX7_ask (rp_rcO sh28 rfl) rfl (Nat.le_of_ble_eq_true rfl) ⟨rfl, rfl, ⟨Nat.le_of_ble_eq_true rfl, Nat.le_of_ble_eq_true rfl⟩, Nat.le_of_ble_eq_true rfl, Nat.le_of_ble_eq_true rfl⟩ rfl (Nat.le_of_ble_eq_true rfl) dL_law_1226 kk) ?_
  refine lw_eq (tgt := 1498) dL_law_1229 (by decide) ?_
  exact nx σ2 h3
set_option maxRecDepth 100000 in
theorem lawc_36 {E : rp_E} {b L : Nat} {xs : Nat → Int32} {i : Nat} {σ : rp_S} (hi : i + 5 ≤ L) (hL : L ≤ 320) (hI : Inv σ) (nx : ∀ τ : rp_S, Inv τ → rp_R E (lw_K E b L xs) mL_law 1498 (lwv E b (rI (i : Int))) [] τ lw_h (some ())) : rp_R E (lw_K E b L xs) mL_law 1234 (lwv E b (rI (i : Int))) [] σ lw_h (some ()) := by
  obtain ⟨r, σ1, σ2, h1, h2, h3⟩ := op_drift hI (xs (rI (i : Int) + rI 1).toNatClampNeg) (xs (rI (i : Int) + rI 2).toNatClampNeg) (xs (rI (i : Int) + rI 3).toNatClampNeg)
  refine rp_aload_n (x := (E.2.2.2.1 0)) dL_law_1234 rfl ?_
  refine rp_aload_n (x := b) dL_law_1235 rfl ?_
  refine rp_iload_n (x := rI (i : Int)) dL_law_1236 rfl ?_
  refine rp_iconst dL_law_1237 ?_
  refine rp_iadd dL_law_1238 ?_
  refine lw_sld (i := rI (i : Int) + rI 1) (lw_in (by omega) (by omega) hL) dL_law_1239 ?_
  refine rp_aload_n (x := b) dL_law_1240 rfl ?_
  refine rp_iload_n (x := rI (i : Int)) dL_law_1241 rfl ?_
  refine rp_iconst dL_law_1242 ?_
  refine rp_iadd dL_law_1243 ?_
  refine lw_sld (i := rI (i : Int) + rI 2) (lw_in (by omega) (by omega) hL) dL_law_1244 ?_
  refine rp_aload_n (x := b) dL_law_1245 rfl ?_
  refine rp_iload_n (x := rI (i : Int)) dL_law_1246 rfl ?_
  refine rp_iconst dL_law_1247 ?_
  refine rp_iadd dL_law_1248 ?_
  refine lw_sld (i := rI (i : Int) + rI 3) (lw_in (by omega) (by omega) hL) dL_law_1249 ?_
  refine lw_cI h1 (fun kk => rp_callV_hI (As := [.int (xs (rI (i : Int) + rI 1).toNatClampNeg), .int (xs (rI (i : Int) + rI 2).toNatClampNeg), .int (xs (rI (i : Int) + rI 3).toNatClampNeg)]) (rest := []) (b := (E.2.2.2.1 0)) (rX6_drift σ (xs (rI (i : Int) + rI 1).toNatClampNeg) (xs (rI (i : Int) + rI 2).toNatClampNeg) (xs (rI (i : Int) + rI 3).toNatClampNeg)) cbX6_drift lkL_164 viX6_drift (rp_rcO sh0 rfl) rfl (Nat.le_of_ble_eq_true rfl) ⟨rfl, rfl, ⟨Nat.le_of_ble_eq_true rfl, Nat.le_of_ble_eq_true rfl⟩, Nat.le_of_ble_eq_true rfl, Nat.le_of_ble_eq_true rfl⟩ rfl (Nat.le_of_ble_eq_true rfl) dL_law_1250 kk) ?_
  refine rp_aload_n (x := (E.2.2.2.1 28)) dL_law_1253 rfl ?_
  refine rp_aload_n (x := b) dL_law_1254 rfl ?_
  refine rp_iload_n (x := rI (i : Int)) dL_law_1255 rfl ?_
  refine rp_iconst dL_law_1256 ?_
  refine rp_iadd dL_law_1257 ?_
  refine lw_sld (i := rI (i : Int) + rI 1) (lw_in (by omega) (by omega) hL) dL_law_1258 ?_
  refine rp_aload_n (x := b) dL_law_1259 rfl ?_
  refine rp_iload_n (x := rI (i : Int)) dL_law_1260 rfl ?_
  refine rp_iconst dL_law_1261 ?_
  refine rp_iadd dL_law_1262 ?_
  refine lw_sld (i := rI (i : Int) + rI 2) (lw_in (by omega) (by omega) hL) dL_law_1263 ?_
  refine rp_aload_n (x := b) dL_law_1264 rfl ?_
  refine rp_iload_n (x := rI (i : Int)) dL_law_1265 rfl ?_
  refine rp_iconst dL_law_1266 ?_
  refine rp_iadd dL_law_1267 ?_
  refine lw_sld (i := rI (i : Int) + rI 3) (lw_in (by omega) (by omega) hL) dL_law_1268 ?_
  refine lw_cI h2 (fun kk => rp_callV_hI (As := [.int (xs (rI (i : Int) + rI 1).toNatClampNeg), .int (xs (rI (i : Int) + rI 2).toNatClampNeg), .int (xs (rI (i : Int) + rI 3).toNatClampNeg)]) (rest := [.int r]) (b := (E.2.2.2.1 28)) (rX7_drift σ1 (xs (rI (i : Int) + rI 1).toNatClampNeg) (xs (rI (i : Int) + rI 2).toNatClampNeg) (xs (rI (i : Int) + rI 3).toNatClampNeg)) cbX7_drift lkL_167 viX7_drift (rp_rcO sh28 rfl) rfl (Nat.le_of_ble_eq_true rfl) ⟨rfl, rfl, ⟨Nat.le_of_ble_eq_true rfl, Nat.le_of_ble_eq_true rfl⟩, Nat.le_of_ble_eq_true rfl, Nat.le_of_ble_eq_true rfl⟩ rfl (Nat.le_of_ble_eq_true rfl) dL_law_1269 kk) ?_
  refine lw_eq (tgt := 1498) dL_law_1272 (by decide) ?_
  exact nx σ2 h3
set_option maxRecDepth 100000 in
theorem lawc_37 {E : rp_E} {b L : Nat} {xs : Nat → Int32} {i : Nat} {σ : rp_S} (hi : i + 5 ≤ L) (hL : L ≤ 320) (hI : Inv σ) (nx : ∀ τ : rp_S, Inv τ → rp_R E (lw_K E b L xs) mL_law 1498 (lwv E b (rI (i : Int))) [] τ lw_h (some ())) : rp_R E (lw_K E b L xs) mL_law 1277 (lwv E b (rI (i : Int))) [] σ lw_h (some ()) := by
  obtain ⟨r, σ1, σ2, h1, h2, h3⟩ := op_keep hI (xs (rI (i : Int) + rI 1).toNatClampNeg)
  refine rp_aload_n (x := (E.2.2.2.1 0)) dL_law_1277 rfl ?_
  refine rp_aload_n (x := b) dL_law_1278 rfl ?_
  refine rp_iload_n (x := rI (i : Int)) dL_law_1279 rfl ?_
  refine rp_iconst dL_law_1280 ?_
  refine rp_iadd dL_law_1281 ?_
  refine lw_sld (i := rI (i : Int) + rI 1) (lw_in (by omega) (by omega) hL) dL_law_1282 ?_
  refine lw_cI h1 (fun kk => rp_callV_hI (As := [.int (xs (rI (i : Int) + rI 1).toNatClampNeg)]) (rest := []) (b := (E.2.2.2.1 0)) (rX6_keep σ (xs (rI (i : Int) + rI 1).toNatClampNeg)) cbX6_keep lkL_168 viX6_keep (rp_rcO sh0 rfl) rfl (Nat.le_of_ble_eq_true rfl) ⟨rfl, rfl, ⟨Nat.le_of_ble_eq_true rfl, Nat.le_of_ble_eq_true rfl⟩, Nat.le_of_ble_eq_true rfl, Nat.le_of_ble_eq_true rfl⟩ rfl (Nat.le_of_ble_eq_true rfl) dL_law_1283 kk) ?_
  refine rp_aload_n (x := (E.2.2.2.1 28)) dL_law_1286 rfl ?_
  refine rp_aload_n (x := b) dL_law_1287 rfl ?_
  refine rp_iload_n (x := rI (i : Int)) dL_law_1288 rfl ?_
  refine rp_iconst dL_law_1289 ?_
  refine rp_iadd dL_law_1290 ?_
  refine lw_sld (i := rI (i : Int) + rI 1) (lw_in (by omega) (by omega) hL) dL_law_1291 ?_
  refine lw_cI h2 (fun kk => rp_callV_hI (As := [.int (xs (rI (i : Int) + rI 1).toNatClampNeg)]) (rest := [.int r]) (b := (E.2.2.2.1 28)) (rX7_keep σ1 (xs (rI (i : Int) + rI 1).toNatClampNeg)) cbX7_keep lkL_171 viX7_keep (rp_rcO sh28 rfl) rfl (Nat.le_of_ble_eq_true rfl) ⟨rfl, rfl, ⟨Nat.le_of_ble_eq_true rfl, Nat.le_of_ble_eq_true rfl⟩, Nat.le_of_ble_eq_true rfl, Nat.le_of_ble_eq_true rfl⟩ rfl (Nat.le_of_ble_eq_true rfl) dL_law_1292 kk) ?_
  refine lw_eq (tgt := 1498) dL_law_1295 (by decide) ?_
  exact nx σ2 h3
set_option maxRecDepth 100000 in
theorem lawc_38 {E : rp_E} {b L : Nat} {xs : Nat → Int32} {i : Nat} {σ : rp_S} (hi : i + 5 ≤ L) (hL : L ≤ 320) (hI : Inv σ) (nx : ∀ τ : rp_S, Inv τ → rp_R E (lw_K E b L xs) mL_law 1498 (lwv E b (rI (i : Int))) [] τ lw_h (some ())) : rp_R E (lw_K E b L xs) mL_law 1300 (lwv E b (rI (i : Int))) [] σ lw_h (some ()) := by
  obtain ⟨r, σ1, σ2, h1, h2, h3⟩ := op_back hI (xs (rI (i : Int) + rI 1).toNatClampNeg)
  refine rp_aload_n (x := (E.2.2.2.1 0)) dL_law_1300 rfl ?_
  refine rp_aload_n (x := b) dL_law_1301 rfl ?_
  refine rp_iload_n (x := rI (i : Int)) dL_law_1302 rfl ?_
  refine rp_iconst dL_law_1303 ?_
  refine rp_iadd dL_law_1304 ?_
  refine lw_sld (i := rI (i : Int) + rI 1) (lw_in (by omega) (by omega) hL) dL_law_1305 ?_
  refine lw_cI h1 (fun kk => rp_callV_hI (As := [.int (xs (rI (i : Int) + rI 1).toNatClampNeg)]) (rest := []) (b := (E.2.2.2.1 0)) (rX6_back σ (xs (rI (i : Int) + rI 1).toNatClampNeg)) cbX6_back lkL_172 viX6_back (rp_rcO sh0 rfl) rfl (Nat.le_of_ble_eq_true rfl) ⟨rfl, rfl, ⟨Nat.le_of_ble_eq_true rfl, Nat.le_of_ble_eq_true rfl⟩, Nat.le_of_ble_eq_true rfl, Nat.le_of_ble_eq_true rfl⟩ rfl (Nat.le_of_ble_eq_true rfl) dL_law_1306 kk) ?_
  refine rp_aload_n (x := (E.2.2.2.1 28)) dL_law_1309 rfl ?_
  refine rp_aload_n (x := b) dL_law_1310 rfl ?_
  refine rp_iload_n (x := rI (i : Int)) dL_law_1311 rfl ?_
  refine rp_iconst dL_law_1312 ?_
  refine rp_iadd dL_law_1313 ?_
  refine lw_sld (i := rI (i : Int) + rI 1) (lw_in (by omega) (by omega) hL) dL_law_1314 ?_
  refine lw_cI h2 (fun kk => rp_callV_hI (As := [.int (xs (rI (i : Int) + rI 1).toNatClampNeg)]) (rest := [.int r]) (b := (E.2.2.2.1 28)) (rX7_back σ1 (xs (rI (i : Int) + rI 1).toNatClampNeg)) cbX7_back lkL_175 viX7_back (rp_rcO sh28 rfl) rfl (Nat.le_of_ble_eq_true rfl) ⟨rfl, rfl, ⟨Nat.le_of_ble_eq_true rfl, Nat.le_of_ble_eq_true rfl⟩, Nat.le_of_ble_eq_true rfl, Nat.le_of_ble_eq_true rfl⟩ rfl (Nat.le_of_ble_eq_true rfl) dL_law_1315 kk) ?_
  refine lw_eq (tgt := 1498) dL_law_1318 (by decide) ?_
  exact nx σ2 h3
set_option maxRecDepth 100000 in
theorem lawc_39 {E : rp_E} {b L : Nat} {xs : Nat → Int32} {i : Nat} {σ : rp_S} (hi : i + 5 ≤ L) (hL : L ≤ 320) (hI : Inv σ) (nx : ∀ τ : rp_S, Inv τ → rp_R E (lw_K E b L xs) mL_law 1498 (lwv E b (rI (i : Int))) [] τ lw_h (some ())) : rp_R E (lw_K E b L xs) mL_law 1323 (lwv E b (rI (i : Int))) [] σ lw_h (some ()) := by
  obtain ⟨r, σ1, σ2, h1, h2, h3⟩ := op_sheet hI (xs (rI (i : Int) + rI 1).toNatClampNeg) (xs (rI (i : Int) + rI 2).toNatClampNeg) (xs (rI (i : Int) + rI 3).toNatClampNeg)
  refine rp_aload_n (x := (E.2.2.2.1 0)) dL_law_1323 rfl ?_
  refine rp_aload_n (x := b) dL_law_1324 rfl ?_
  refine rp_iload_n (x := rI (i : Int)) dL_law_1325 rfl ?_
  refine rp_iconst dL_law_1326 ?_
  refine rp_iadd dL_law_1327 ?_
  refine lw_sld (i := rI (i : Int) + rI 1) (lw_in (by omega) (by omega) hL) dL_law_1328 ?_
  refine rp_aload_n (x := b) dL_law_1329 rfl ?_
  refine rp_iload_n (x := rI (i : Int)) dL_law_1330 rfl ?_
  refine rp_iconst dL_law_1331 ?_
  refine rp_iadd dL_law_1332 ?_
  refine lw_sld (i := rI (i : Int) + rI 2) (lw_in (by omega) (by omega) hL) dL_law_1333 ?_
  refine rp_aload_n (x := b) dL_law_1334 rfl ?_
  refine rp_iload_n (x := rI (i : Int)) dL_law_1335 rfl ?_
  refine rp_iconst dL_law_1336 ?_
  refine rp_iadd dL_law_1337 ?_
  refine lw_sld (i := rI (i : Int) + rI 3) (lw_in (by omega) (by omega) hL) dL_law_1338 ?_
  refine lw_cI h1 (fun kk => rp_callV_hI (As := [.int (xs (rI (i : Int) + rI 1).toNatClampNeg), .int (xs (rI (i : Int) + rI 2).toNatClampNeg), .int (xs (rI (i : Int) + rI 3).toNatClampNeg)]) (rest := []) (b := (E.2.2.2.1 0)) (rX6_sheet σ (xs (rI (i : Int) + rI 1).toNatClampNeg) (xs (rI (i : Int) + rI 2).toNatClampNeg) (xs (rI (i : Int) + rI 3).toNatClampNeg)) cbX6_sheet lkL_176 viX6_sheet (rp_rcO sh0 rfl) rfl (Nat.le_of_ble_eq_true rfl) ⟨rfl, rfl, ⟨Nat.le_of_ble_eq_true rfl, Nat.le_of_ble_eq_true rfl⟩, Nat.le_of_ble_eq_true rfl, Nat.le_of_ble_eq_true rfl⟩ rfl (Nat.le_of_ble_eq_true rfl) dL_law_1339 kk) ?_
  refine rp_aload_n (x := (E.2.2.2.1 28)) dL_law_1342 rfl ?_
  refine rp_aload_n (x := b) dL_law_1343 rfl ?_
  refine rp_iload_n (x := rI (i : Int)) dL_law_1344 rfl ?_
  refine rp_iconst dL_law_1345 ?_
  refine rp_iadd dL_law_1346 ?_
  refine lw_sld (i := rI (i : Int) + rI 1) (lw_in (by omega) (by omega) hL) dL_law_1347 ?_
  refine rp_aload_n (x := b) dL_law_1348 rfl ?_
  refine rp_iload_n (x := rI (i : Int)) dL_law_1349 rfl ?_
  refine rp_iconst dL_law_1350 ?_
  refine rp_iadd dL_law_1351 ?_
  refine lw_sld (i := rI (i : Int) + rI 2) (lw_in (by omega) (by omega) hL) dL_law_1352 ?_
  refine rp_aload_n (x := b) dL_law_1353 rfl ?_
  refine rp_iload_n (x := rI (i : Int)) dL_law_1354 rfl ?_
  refine rp_iconst dL_law_1355 ?_
  refine rp_iadd dL_law_1356 ?_
  refine lw_sld (i := rI (i : Int) + rI 3) (lw_in (by omega) (by omega) hL) dL_law_1357 ?_
  refine lw_cI h2 (fun kk => rp_callV_hI (As := [.int (xs (rI (i : Int) + rI 1).toNatClampNeg), .int (xs (rI (i : Int) + rI 2).toNatClampNeg), .int (xs (rI (i : Int) + rI 3).toNatClampNeg)]) (rest := [.int r]) (b := (E.2.2.2.1 28)) (rX7_sheet σ1 (xs (rI (i : Int) + rI 1).toNatClampNeg) (xs (rI (i : Int) + rI 2).toNatClampNeg) (xs (rI (i : Int) + rI 3).toNatClampNeg)) cbX7_sheet lkL_179 viX7_sheet (rp_rcO sh28 rfl) rfl (Nat.le_of_ble_eq_true rfl) ⟨rfl, rfl, ⟨Nat.le_of_ble_eq_true rfl, Nat.le_of_ble_eq_true rfl⟩, Nat.le_of_ble_eq_true rfl, Nat.le_of_ble_eq_true rfl⟩ rfl (Nat.le_of_ble_eq_true rfl) dL_law_1358 kk) ?_
  refine lw_eq (tgt := 1498) dL_law_1361 (by decide) ?_
  exact nx σ2 h3
set_option maxRecDepth 100000 in
theorem lawc_40 {E : rp_E} {b L : Nat} {xs : Nat → Int32} {i : Nat} {σ : rp_S} (hi : i + 5 ≤ L) (hL : L ≤ 320) (hI : Inv σ) (nx : ∀ τ : rp_S, Inv τ → rp_R E (lw_K E b L xs) mL_law 1498 (lwv E b (rI (i : Int))) [] τ lw_h (some ())) : rp_R E (lw_K E b L xs) mL_law 1366 (lwv E b (rI (i : Int))) [] σ lw_h (some ()) := by
  obtain ⟨r, σ1, σ2, h1, h2, h3⟩ := op_lay hI (xs (rI (i : Int) + rI 1).toNatClampNeg) (xs (rI (i : Int) + rI 2).toNatClampNeg) (xs (rI (i : Int) + rI 3).toNatClampNeg)
  refine rp_aload_n (x := (E.2.2.2.1 0)) dL_law_1366 rfl ?_
  refine rp_aload_n (x := b) dL_law_1367 rfl ?_
  refine rp_iload_n (x := rI (i : Int)) dL_law_1368 rfl ?_
  refine rp_iconst dL_law_1369 ?_
  refine rp_iadd dL_law_1370 ?_
  refine lw_sld (i := rI (i : Int) + rI 1) (lw_in (by omega) (by omega) hL) dL_law_1371 ?_
  refine rp_aload_n (x := b) dL_law_1372 rfl ?_
  refine rp_iload_n (x := rI (i : Int)) dL_law_1373 rfl ?_
  refine rp_iconst dL_law_1374 ?_
  refine rp_iadd dL_law_1375 ?_
  refine lw_sld (i := rI (i : Int) + rI 2) (lw_in (by omega) (by omega) hL) dL_law_1376 ?_
  refine rp_aload_n (x := b) dL_law_1377 rfl ?_
  refine rp_iload_n (x := rI (i : Int)) dL_law_1378 rfl ?_
  refine rp_iconst dL_law_1379 ?_
  refine rp_iadd dL_law_1380 ?_
  refine lw_sld (i := rI (i : Int) + rI 3) (lw_in (by omega) (by omega) hL) dL_law_1381 ?_
  refine lw_cI h1 (fun kk => rp_callV_hI (As := [.int (xs (rI (i : Int) + rI 1).toNatClampNeg), .int (xs (rI (i : Int) + rI 2).toNatClampNeg), .int (xs (rI (i : Int) + rI 3).toNatClampNeg)]) (rest := []) (b := (E.2.2.2.1 0)) (rX6_lay σ (xs (rI (i : Int) + rI 1).toNatClampNeg) (xs (rI (i : Int) + rI 2).toNatClampNeg) (xs (rI (i : Int) + rI 3).toNatClampNeg)) cbX6_lay lkL_180 viX6_lay (rp_rcO sh0 rfl) rfl (Nat.le_of_ble_eq_true rfl) ⟨rfl, rfl, ⟨Nat.le_of_ble_eq_true rfl, Nat.le_of_ble_eq_true rfl⟩, Nat.le_of_ble_eq_true rfl, Nat.le_of_ble_eq_true rfl⟩ rfl (Nat.le_of_ble_eq_true rfl) dL_law_1382 kk) ?_
  refine rp_aload_n (x := (E.2.2.2.1 28)) dL_law_1385 rfl ?_
  refine rp_aload_n (x := b) dL_law_1386 rfl ?_
  refine rp_iload_n (x := rI (i : Int)) dL_law_1387 rfl ?_
  refine rp_iconst dL_law_1388 ?_
  refine rp_iadd dL_law_1389 ?_
  refine lw_sld (i := rI (i : Int) + rI 1) (lw_in (by omega) (by omega) hL) dL_law_1390 ?_
  refine rp_aload_n (x := b) dL_law_1391 rfl ?_
  refine rp_iload_n (x := rI (i : Int)) dL_law_1392 rfl ?_
  refine rp_iconst dL_law_1393 ?_
  refine rp_iadd dL_law_1394 ?_
  refine lw_sld (i := rI (i : Int) + rI 2) (lw_in (by omega) (by omega) hL) dL_law_1395 ?_
  refine rp_aload_n (x := b) dL_law_1396 rfl ?_
  refine rp_iload_n (x := rI (i : Int)) dL_law_1397 rfl ?_
  refine rp_iconst dL_law_1398 ?_
  refine rp_iadd dL_law_1399 ?_
  refine lw_sld (i := rI (i : Int) + rI 3) (lw_in (by omega) (by omega) hL) dL_law_1400 ?_
  refine lw_cI h2 (fun kk => rp_callV_hI (As := [.int (xs (rI (i : Int) + rI 1).toNatClampNeg), .int (xs (rI (i : Int) + rI 2).toNatClampNeg), .int (xs (rI (i : Int) + rI 3).toNatClampNeg)]) (rest := [.int r]) (b := (E.2.2.2.1 28)) (rX7_lay σ1 (xs (rI (i : Int) + rI 1).toNatClampNeg) (xs (rI (i : Int) + rI 2).toNatClampNeg) (xs (rI (i : Int) + rI 3).toNatClampNeg)) cbX7_lay lkL_183 viX7_lay (rp_rcO sh28 rfl) rfl (Nat.le_of_ble_eq_true rfl) ⟨rfl, rfl, ⟨Nat.le_of_ble_eq_true rfl, Nat.le_of_ble_eq_true rfl⟩, Nat.le_of_ble_eq_true rfl, Nat.le_of_ble_eq_true rfl⟩ rfl (Nat.le_of_ble_eq_true rfl) dL_law_1401 kk) ?_
  refine lw_eq (tgt := 1498) dL_law_1404 (by decide) ?_
  exact nx σ2 h3
set_option maxRecDepth 100000 in
theorem lawc_41 {E : rp_E} {b L : Nat} {xs : Nat → Int32} {i : Nat} {σ : rp_S} (hi : i + 5 ≤ L) (hL : L ≤ 320) (hI : Inv σ) (nx : ∀ τ : rp_S, Inv τ → rp_R E (lw_K E b L xs) mL_law 1498 (lwv E b (rI (i : Int))) [] τ lw_h (some ())) : rp_R E (lw_K E b L xs) mL_law 1409 (lwv E b (rI (i : Int))) [] σ lw_h (some ()) := by
  obtain ⟨r, σ1, σ2, h1, h2, h3⟩ := op_read hI (xs (rI (i : Int) + rI 1).toNatClampNeg) (xs (rI (i : Int) + rI 2).toNatClampNeg) (xs (rI (i : Int) + rI 3).toNatClampNeg) (xs (rI (i : Int) + rI 4).toNatClampNeg)
  refine rp_aload_n (x := (E.2.2.2.1 0)) dL_law_1409 rfl ?_
  refine rp_aload_n (x := b) dL_law_1410 rfl ?_
  refine rp_iload_n (x := rI (i : Int)) dL_law_1411 rfl ?_
  refine rp_iconst dL_law_1412 ?_
  refine rp_iadd dL_law_1413 ?_
  refine lw_sld (i := rI (i : Int) + rI 1) (lw_in (by omega) (by omega) hL) dL_law_1414 ?_
  refine rp_aload_n (x := b) dL_law_1415 rfl ?_
  refine rp_iload_n (x := rI (i : Int)) dL_law_1416 rfl ?_
  refine rp_iconst dL_law_1417 ?_
  refine rp_iadd dL_law_1418 ?_
  refine lw_sld (i := rI (i : Int) + rI 2) (lw_in (by omega) (by omega) hL) dL_law_1419 ?_
  refine rp_aload_n (x := b) dL_law_1420 rfl ?_
  refine rp_iload_n (x := rI (i : Int)) dL_law_1421 rfl ?_
  refine rp_iconst dL_law_1422 ?_
  refine rp_iadd dL_law_1423 ?_
  refine lw_sld (i := rI (i : Int) + rI 3) (lw_in (by omega) (by omega) hL) dL_law_1424 ?_
  refine rp_aload_n (x := b) dL_law_1425 rfl ?_
  refine rp_iload_n (x := rI (i : Int)) dL_law_1426 rfl ?_
  refine rp_iconst dL_law_1427 ?_
  refine rp_iadd dL_law_1428 ?_
  refine lw_sld (i := rI (i : Int) + rI 4) (lw_in (by omega) (by omega) hL) dL_law_1429 ?_
  refine lw_cI h1 (fun kk => rp_callV_hI (As := [.int (xs (rI (i : Int) + rI 1).toNatClampNeg), .int (xs (rI (i : Int) + rI 2).toNatClampNeg), .int (xs (rI (i : Int) + rI 3).toNatClampNeg), .int (xs (rI (i : Int) + rI 4).toNatClampNeg)]) (rest := []) (b := (E.2.2.2.1 0)) (rX6_read σ (xs (rI (i : Int) + rI 1).toNatClampNeg) (xs (rI (i : Int) + rI 2).toNatClampNeg) (xs (rI (i : Int) + rI 3).toNatClampNeg) (xs (rI (i : Int) + rI 4).toNatClampNeg)) cbX6_read lkL_184 viX6_read (rp_rcO sh0 rfl) rfl (Nat.le_of_ble_eq_true rfl) ⟨rfl, rfl, ⟨Nat.le_of_ble_eq_true rfl, Nat.le_of_ble_eq_true rfl⟩, Nat.le_of_ble_eq_true rfl, Nat.le_of_ble_eq_true rfl⟩ rfl (Nat.le_of_ble_eq_true rfl) dL_law_1430 kk) ?_
  refine rp_aload_n (x := (E.2.2.2.1 28)) dL_law_1433 rfl ?_
  refine rp_aload_n (x := b) dL_law_1434 rfl ?_
  refine rp_iload_n (x := rI (i : Int)) dL_law_1435 rfl ?_
  refine rp_iconst dL_law_1436 ?_
  refine rp_iadd dL_law_1437 ?_
  refine lw_sld (i := rI (i : Int) + rI 1) (lw_in (by omega) (by omega) hL) dL_law_1438 ?_
  refine rp_aload_n (x := b) dL_law_1439 rfl ?_
  refine rp_iload_n (x := rI (i : Int)) dL_law_1440 rfl ?_
  refine rp_iconst dL_law_1441 ?_
  refine rp_iadd dL_law_1442 ?_
  refine lw_sld (i := rI (i : Int) + rI 2) (lw_in (by omega) (by omega) hL) dL_law_1443 ?_
  refine rp_aload_n (x := b) dL_law_1444 rfl ?_
  refine rp_iload_n (x := rI (i : Int)) dL_law_1445 rfl ?_
  refine rp_iconst dL_law_1446 ?_
  refine rp_iadd dL_law_1447 ?_
  refine lw_sld (i := rI (i : Int) + rI 3) (lw_in (by omega) (by omega) hL) dL_law_1448 ?_
  refine rp_aload_n (x := b) dL_law_1449 rfl ?_
  refine rp_iload_n (x := rI (i : Int)) dL_law_1450 rfl ?_
  refine rp_iconst dL_law_1451 ?_
  refine rp_iadd dL_law_1452 ?_
  refine lw_sld (i := rI (i : Int) + rI 4) (lw_in (by omega) (by omega) hL) dL_law_1453 ?_
  refine lw_cI h2 (fun kk => rp_callV_hI (As := [.int (xs (rI (i : Int) + rI 1).toNatClampNeg), .int (xs (rI (i : Int) + rI 2).toNatClampNeg), .int (xs (rI (i : Int) + rI 3).toNatClampNeg), .int (xs (rI (i : Int) + rI 4).toNatClampNeg)]) (rest := [.int r]) (b := (E.2.2.2.1 28)) (rX7_read σ1 (xs (rI (i : Int) + rI 1).toNatClampNeg) (xs (rI (i : Int) + rI 2).toNatClampNeg) (xs (rI (i : Int) + rI 3).toNatClampNeg) (xs (rI (i : Int) + rI 4).toNatClampNeg)) cbX7_read lkL_187 viX7_read (rp_rcO sh28 rfl) rfl (Nat.le_of_ble_eq_true rfl) ⟨rfl, rfl, ⟨Nat.le_of_ble_eq_true rfl, Nat.le_of_ble_eq_true rfl⟩, Nat.le_of_ble_eq_true rfl, Nat.le_of_ble_eq_true rfl⟩ rfl (Nat.le_of_ble_eq_true rfl) dL_law_1454 kk) ?_
  refine lw_eq (tgt := 1498) dL_law_1457 (by decide) ?_
  exact nx σ2 h3
set_option maxRecDepth 100000 in
theorem lawc_42 {E : rp_E} {b L : Nat} {xs : Nat → Int32} {i : Nat} {σ : rp_S} (hi : i + 5 ≤ L) (hL : L ≤ 320) (hI : Inv σ) (nx : ∀ τ : rp_S, Inv τ → rp_R E (lw_K E b L xs) mL_law 1498 (lwv E b (rI (i : Int))) [] τ lw_h (some ())) : rp_R E (lw_K E b L xs) mL_law 1462 (lwv E b (rI (i : Int))) [] σ lw_h (some ()) := by
  obtain ⟨r, h1, h2⟩ := op_torn hI
  refine rp_aload_n (x := (E.2.2.2.1 0)) dL_law_1462 rfl ?_
  refine lw_ci h1 (fun kk => rp_callV_hi (As := []) (rest := []) (b := (E.2.2.2.1 0)) (rX6_torn σ) cbX6_torn lkL_188 viX6_torn (rp_rcO sh0 rfl) rfl (Nat.le_of_ble_eq_true rfl) ⟨rfl, rfl, ⟨Nat.le_of_ble_eq_true rfl, Nat.le_of_ble_eq_true rfl⟩, Nat.le_of_ble_eq_true rfl, Nat.le_of_ble_eq_true rfl⟩ rfl (Nat.le_of_ble_eq_true rfl) dL_law_1463 kk) ?_
  refine rp_aload_n (x := (E.2.2.2.1 28)) dL_law_1466 rfl ?_
  refine lw_ci h2 (fun kk => rp_callV_hi (As := []) (rest := [.int r]) (b := (E.2.2.2.1 28)) (rX7_torn σ) cbX7_torn lkL_191 viX7_torn (rp_rcO sh28 rfl) rfl (Nat.le_of_ble_eq_true rfl) ⟨rfl, rfl, ⟨Nat.le_of_ble_eq_true rfl, Nat.le_of_ble_eq_true rfl⟩, Nat.le_of_ble_eq_true rfl, Nat.le_of_ble_eq_true rfl⟩ rfl (Nat.le_of_ble_eq_true rfl) dL_law_1467 kk) ?_
  refine lw_eq (tgt := 1498) dL_law_1470 (by decide) ?_
  exact nx σ hI
set_option maxRecDepth 100000 in
theorem lawc_43 {E : rp_E} {b L : Nat} {xs : Nat → Int32} {i : Nat} {σ : rp_S} (hi : i + 5 ≤ L) (hL : L ≤ 320) (hI : Inv σ) (nx : ∀ τ : rp_S, Inv τ → rp_R E (lw_K E b L xs) mL_law 1498 (lwv E b (rI (i : Int))) [] τ lw_h (some ())) : rp_R E (lw_K E b L xs) mL_law 1475 (lwv E b (rI (i : Int))) [] σ lw_h (some ()) := by
  obtain ⟨r, h1, h2⟩ := op_count hI (xs (rI (i : Int) + rI 1).toNatClampNeg)
  refine rp_aload_n (x := (E.2.2.2.1 0)) dL_law_1475 rfl ?_
  refine rp_aload_n (x := b) dL_law_1476 rfl ?_
  refine rp_iload_n (x := rI (i : Int)) dL_law_1477 rfl ?_
  refine rp_iconst dL_law_1478 ?_
  refine rp_iadd dL_law_1479 ?_
  refine lw_sld (i := rI (i : Int) + rI 1) (lw_in (by omega) (by omega) hL) dL_law_1480 ?_
  refine lw_ci h1 (fun kk => rp_callV_hi (As := [.int (xs (rI (i : Int) + rI 1).toNatClampNeg)]) (rest := []) (b := (E.2.2.2.1 0)) (rX6_count σ (xs (rI (i : Int) + rI 1).toNatClampNeg)) cbX6_count lkL_192 viX6_count (rp_rcO sh0 rfl) rfl (Nat.le_of_ble_eq_true rfl) ⟨rfl, rfl, ⟨Nat.le_of_ble_eq_true rfl, Nat.le_of_ble_eq_true rfl⟩, Nat.le_of_ble_eq_true rfl, Nat.le_of_ble_eq_true rfl⟩ rfl (Nat.le_of_ble_eq_true rfl) dL_law_1481 kk) ?_
  refine rp_aload_n (x := (E.2.2.2.1 28)) dL_law_1484 rfl ?_
  refine rp_aload_n (x := b) dL_law_1485 rfl ?_
  refine rp_iload_n (x := rI (i : Int)) dL_law_1486 rfl ?_
  refine rp_iconst dL_law_1487 ?_
  refine rp_iadd dL_law_1488 ?_
  refine lw_sld (i := rI (i : Int) + rI 1) (lw_in (by omega) (by omega) hL) dL_law_1489 ?_
  refine lw_ci h2 (fun kk => rp_callV_hi (As := [.int (xs (rI (i : Int) + rI 1).toNatClampNeg)]) (rest := [.int r]) (b := (E.2.2.2.1 28)) (rX7_count σ (xs (rI (i : Int) + rI 1).toNatClampNeg)) cbX7_count lkL_195 viX7_count (rp_rcO sh28 rfl) rfl (Nat.le_of_ble_eq_true rfl) ⟨rfl, rfl, ⟨Nat.le_of_ble_eq_true rfl, Nat.le_of_ble_eq_true rfl⟩, Nat.le_of_ble_eq_true rfl, Nat.le_of_ble_eq_true rfl⟩ rfl (Nat.le_of_ble_eq_true rfl) dL_law_1490 kk) ?_
  refine lw_eq (tgt := 1498) dL_law_1493 (by decide) ?_
  exact nx σ hI
