theorem ck_1 : chkC 1 kd_1 = true := by decide +kernel
theorem wp_1 (n : Nat) {d : Nat} (S : List Nat) {pc : Nat} {L : List (Option Value)} {st : List Value} {σ : yS} {Q : Option Value → yS → Prop} (h : yWp n d 1 kd_1 S pc L st σ Q) : yR d 1 pc L st σ Q := yWp_sound yGood_ok ck_1 n h
theorem ck_2 : chkC 2 kd_2 = true := by decide +kernel
theorem wp_2 (n : Nat) {d : Nat} (S : List Nat) {pc : Nat} {L : List (Option Value)} {st : List Value} {σ : yS} {Q : Option Value → yS → Prop} (h : yWp n d 2 kd_2 S pc L st σ Q) : yR d 2 pc L st σ Q := yWp_sound yGood_ok ck_2 n h
theorem ck_4 : chkC 4 kd_4 = true := by decide +kernel
theorem wp_4 (n : Nat) {d : Nat} (S : List Nat) {pc : Nat} {L : List (Option Value)} {st : List Value} {σ : yS} {Q : Option Value → yS → Prop} (h : yWp n d 4 kd_4 S pc L st σ Q) : yR d 4 pc L st σ Q := yWp_sound yGood_ok ck_4 n h
theorem ck_5 : chkC 5 kd_5 = true := by decide +kernel
theorem wp_5 (n : Nat) {d : Nat} (S : List Nat) {pc : Nat} {L : List (Option Value)} {st : List Value} {σ : yS} {Q : Option Value → yS → Prop} (h : yWp n d 5 kd_5 S pc L st σ Q) : yR d 5 pc L st σ Q := yWp_sound yGood_ok ck_5 n h
theorem ck_6 : chkC 6 kd_6 = true := by decide +kernel
theorem wp_6 (n : Nat) {d : Nat} (S : List Nat) {pc : Nat} {L : List (Option Value)} {st : List Value} {σ : yS} {Q : Option Value → yS → Prop} (h : yWp n d 6 kd_6 S pc L st σ Q) : yR d 6 pc L st σ Q := yWp_sound yGood_ok ck_6 n h
theorem ck_7 : chkC 7 kd_7 = true := by decide +kernel
theorem wp_7 (n : Nat) {d : Nat} (S : List Nat) {pc : Nat} {L : List (Option Value)} {st : List Value} {σ : yS} {Q : Option Value → yS → Prop} (h : yWp n d 7 kd_7 S pc L st σ Q) : yR d 7 pc L st σ Q := yWp_sound yGood_ok ck_7 n h
theorem ck_8 : chkC 8 kd_8 = true := by decide +kernel
theorem wp_8 (n : Nat) {d : Nat} (S : List Nat) {pc : Nat} {L : List (Option Value)} {st : List Value} {σ : yS} {Q : Option Value → yS → Prop} (h : yWp n d 8 kd_8 S pc L st σ Q) : yR d 8 pc L st σ Q := yWp_sound yGood_ok ck_8 n h
theorem ck_9 : chkC 9 kd_9 = true := by decide +kernel
theorem wp_9 (n : Nat) {d : Nat} (S : List Nat) {pc : Nat} {L : List (Option Value)} {st : List Value} {σ : yS} {Q : Option Value → yS → Prop} (h : yWp n d 9 kd_9 S pc L st σ Q) : yR d 9 pc L st σ Q := yWp_sound yGood_ok ck_9 n h
theorem ck_10 : chkC 10 kd_10 = true := by decide +kernel
theorem wp_10 (n : Nat) {d : Nat} (S : List Nat) {pc : Nat} {L : List (Option Value)} {st : List Value} {σ : yS} {Q : Option Value → yS → Prop} (h : yWp n d 10 kd_10 S pc L st σ Q) : yR d 10 pc L st σ Q := yWp_sound yGood_ok ck_10 n h
theorem ck_11 : chkC 11 kd_11 = true := by decide +kernel
theorem wp_11 (n : Nat) {d : Nat} (S : List Nat) {pc : Nat} {L : List (Option Value)} {st : List Value} {σ : yS} {Q : Option Value → yS → Prop} (h : yWp n d 11 kd_11 S pc L st σ Q) : yR d 11 pc L st σ Q := yWp_sound yGood_ok ck_11 n h
theorem ck_12 : chkC 12 kd_12 = true := by decide +kernel
theorem wp_12 (n : Nat) {d : Nat} (S : List Nat) {pc : Nat} {L : List (Option Value)} {st : List Value} {σ : yS} {Q : Option Value → yS → Prop} (h : yWp n d 12 kd_12 S pc L st σ Q) : yR d 12 pc L st σ Q := yWp_sound yGood_ok ck_12 n h
theorem ck_13 : chkC 13 kd_13 = true := by decide +kernel
theorem wp_13 (n : Nat) {d : Nat} (S : List Nat) {pc : Nat} {L : List (Option Value)} {st : List Value} {σ : yS} {Q : Option Value → yS → Prop} (h : yWp n d 13 kd_13 S pc L st σ Q) : yR d 13 pc L st σ Q := yWp_sound yGood_ok ck_13 n h
theorem ck_14 : chkC 14 kd_14 = true := by decide +kernel
theorem wp_14 (n : Nat) {d : Nat} (S : List Nat) {pc : Nat} {L : List (Option Value)} {st : List Value} {σ : yS} {Q : Option Value → yS → Prop} (h : yWp n d 14 kd_14 S pc L st σ Q) : yR d 14 pc L st σ Q := yWp_sound yGood_ok ck_14 n h
theorem ck_15 : chkC 15 kd_15 = true := by decide +kernel
theorem wp_15 (n : Nat) {d : Nat} (S : List Nat) {pc : Nat} {L : List (Option Value)} {st : List Value} {σ : yS} {Q : Option Value → yS → Prop} (h : yWp n d 15 kd_15 S pc L st σ Q) : yR d 15 pc L st σ Q := yWp_sound yGood_ok ck_15 n h
theorem ck_16 : chkC 16 kd_16 = true := by decide +kernel
theorem wp_16 (n : Nat) {d : Nat} (S : List Nat) {pc : Nat} {L : List (Option Value)} {st : List Value} {σ : yS} {Q : Option Value → yS → Prop} (h : yWp n d 16 kd_16 S pc L st σ Q) : yR d 16 pc L st σ Q := yWp_sound yGood_ok ck_16 n h
theorem ck_17 : chkC 17 kd_17 = true := by decide +kernel
theorem wp_17 (n : Nat) {d : Nat} (S : List Nat) {pc : Nat} {L : List (Option Value)} {st : List Value} {σ : yS} {Q : Option Value → yS → Prop} (h : yWp n d 17 kd_17 S pc L st σ Q) : yR d 17 pc L st σ Q := yWp_sound yGood_ok ck_17 n h
theorem ck_18 : chkC 18 kd_18 = true := by decide +kernel
theorem wp_18 (n : Nat) {d : Nat} (S : List Nat) {pc : Nat} {L : List (Option Value)} {st : List Value} {σ : yS} {Q : Option Value → yS → Prop} (h : yWp n d 18 kd_18 S pc L st σ Q) : yR d 18 pc L st σ Q := yWp_sound yGood_ok ck_18 n h
theorem ck_20 : chkC 20 kd_20 = true := by decide +kernel
theorem wp_20 (n : Nat) {d : Nat} (S : List Nat) {pc : Nat} {L : List (Option Value)} {st : List Value} {σ : yS} {Q : Option Value → yS → Prop} (h : yWp n d 20 kd_20 S pc L st σ Q) : yR d 20 pc L st σ Q := yWp_sound yGood_ok ck_20 n h
theorem ck_21 : chkC 21 kd_21 = true := by decide +kernel
theorem wp_21 (n : Nat) {d : Nat} (S : List Nat) {pc : Nat} {L : List (Option Value)} {st : List Value} {σ : yS} {Q : Option Value → yS → Prop} (h : yWp n d 21 kd_21 S pc L st σ Q) : yR d 21 pc L st σ Q := yWp_sound yGood_ok ck_21 n h
theorem ck_22 : chkC 22 kd_22 = true := by decide +kernel
theorem wp_22 (n : Nat) {d : Nat} (S : List Nat) {pc : Nat} {L : List (Option Value)} {st : List Value} {σ : yS} {Q : Option Value → yS → Prop} (h : yWp n d 22 kd_22 S pc L st σ Q) : yR d 22 pc L st σ Q := yWp_sound yGood_ok ck_22 n h
theorem ck_23 : chkC 23 kd_23 = true := by decide +kernel
theorem wp_23 (n : Nat) {d : Nat} (S : List Nat) {pc : Nat} {L : List (Option Value)} {st : List Value} {σ : yS} {Q : Option Value → yS → Prop} (h : yWp n d 23 kd_23 S pc L st σ Q) : yR d 23 pc L st σ Q := yWp_sound yGood_ok ck_23 n h
theorem ck_24 : chkC 24 kd_24 = true := by decide +kernel
theorem wp_24 (n : Nat) {d : Nat} (S : List Nat) {pc : Nat} {L : List (Option Value)} {st : List Value} {σ : yS} {Q : Option Value → yS → Prop} (h : yWp n d 24 kd_24 S pc L st σ Q) : yR d 24 pc L st σ Q := yWp_sound yGood_ok ck_24 n h
theorem ck_26 : chkC 26 kd_26 = true := by decide +kernel
theorem wp_26 (n : Nat) {d : Nat} (S : List Nat) {pc : Nat} {L : List (Option Value)} {st : List Value} {σ : yS} {Q : Option Value → yS → Prop} (h : yWp n d 26 kd_26 S pc L st σ Q) : yR d 26 pc L st σ Q := yWp_sound yGood_ok ck_26 n h
theorem ck_27 : chkC 27 kd_27 = true := by decide +kernel
theorem wp_27 (n : Nat) {d : Nat} (S : List Nat) {pc : Nat} {L : List (Option Value)} {st : List Value} {σ : yS} {Q : Option Value → yS → Prop} (h : yWp n d 27 kd_27 S pc L st σ Q) : yR d 27 pc L st σ Q := yWp_sound yGood_ok ck_27 n h
theorem ck_28 : chkC 28 kd_28 = true := by decide +kernel
theorem wp_28 (n : Nat) {d : Nat} (S : List Nat) {pc : Nat} {L : List (Option Value)} {st : List Value} {σ : yS} {Q : Option Value → yS → Prop} (h : yWp n d 28 kd_28 S pc L st σ Q) : yR d 28 pc L st σ Q := yWp_sound yGood_ok ck_28 n h
theorem ck_29 : chkC 29 kd_29 = true := by decide +kernel
theorem wp_29 (n : Nat) {d : Nat} (S : List Nat) {pc : Nat} {L : List (Option Value)} {st : List Value} {σ : yS} {Q : Option Value → yS → Prop} (h : yWp n d 29 kd_29 S pc L st σ Q) : yR d 29 pc L st σ Q := yWp_sound yGood_ok ck_29 n h
theorem ck_30 : chkC 30 kd_30 = true := by decide +kernel
theorem wp_30 (n : Nat) {d : Nat} (S : List Nat) {pc : Nat} {L : List (Option Value)} {st : List Value} {σ : yS} {Q : Option Value → yS → Prop} (h : yWp n d 30 kd_30 S pc L st σ Q) : yR d 30 pc L st σ Q := yWp_sound yGood_ok ck_30 n h
theorem ck_31 : chkC 31 kd_31 = true := by decide +kernel
theorem wp_31 (n : Nat) {d : Nat} (S : List Nat) {pc : Nat} {L : List (Option Value)} {st : List Value} {σ : yS} {Q : Option Value → yS → Prop} (h : yWp n d 31 kd_31 S pc L st σ Q) : yR d 31 pc L st σ Q := yWp_sound yGood_ok ck_31 n h
theorem ck_32 : chkC 32 kd_32 = true := by decide +kernel
theorem wp_32 (n : Nat) {d : Nat} (S : List Nat) {pc : Nat} {L : List (Option Value)} {st : List Value} {σ : yS} {Q : Option Value → yS → Prop} (h : yWp n d 32 kd_32 S pc L st σ Q) : yR d 32 pc L st σ Q := yWp_sound yGood_ok ck_32 n h
theorem ck_33 : chkC 33 kd_33 = true := by decide +kernel
theorem wp_33 (n : Nat) {d : Nat} (S : List Nat) {pc : Nat} {L : List (Option Value)} {st : List Value} {σ : yS} {Q : Option Value → yS → Prop} (h : yWp n d 33 kd_33 S pc L st σ Q) : yR d 33 pc L st σ Q := yWp_sound yGood_ok ck_33 n h
theorem ck_34 : chkC 34 kd_34 = true := by decide +kernel
theorem wp_34 (n : Nat) {d : Nat} (S : List Nat) {pc : Nat} {L : List (Option Value)} {st : List Value} {σ : yS} {Q : Option Value → yS → Prop} (h : yWp n d 34 kd_34 S pc L st σ Q) : yR d 34 pc L st σ Q := yWp_sound yGood_ok ck_34 n h
theorem ck_35 : chkC 35 kd_35 = true := by decide +kernel
theorem wp_35 (n : Nat) {d : Nat} (S : List Nat) {pc : Nat} {L : List (Option Value)} {st : List Value} {σ : yS} {Q : Option Value → yS → Prop} (h : yWp n d 35 kd_35 S pc L st σ Q) : yR d 35 pc L st σ Q := yWp_sound yGood_ok ck_35 n h
theorem ck_36 : chkC 36 kd_36 = true := by decide +kernel
theorem wp_36 (n : Nat) {d : Nat} (S : List Nat) {pc : Nat} {L : List (Option Value)} {st : List Value} {σ : yS} {Q : Option Value → yS → Prop} (h : yWp n d 36 kd_36 S pc L st σ Q) : yR d 36 pc L st σ Q := yWp_sound yGood_ok ck_36 n h
theorem ck_37 : chkC 37 kd_37 = true := by decide +kernel
theorem wp_37 (n : Nat) {d : Nat} (S : List Nat) {pc : Nat} {L : List (Option Value)} {st : List Value} {σ : yS} {Q : Option Value → yS → Prop} (h : yWp n d 37 kd_37 S pc L st σ Q) : yR d 37 pc L st σ Q := yWp_sound yGood_ok ck_37 n h
theorem ck_38 : chkC 38 kd_38 = true := by decide +kernel
theorem wp_38 (n : Nat) {d : Nat} (S : List Nat) {pc : Nat} {L : List (Option Value)} {st : List Value} {σ : yS} {Q : Option Value → yS → Prop} (h : yWp n d 38 kd_38 S pc L st σ Q) : yR d 38 pc L st σ Q := yWp_sound yGood_ok ck_38 n h
theorem ck_39 : chkC 39 kd_39 = true := by decide +kernel
theorem wp_39 (n : Nat) {d : Nat} (S : List Nat) {pc : Nat} {L : List (Option Value)} {st : List Value} {σ : yS} {Q : Option Value → yS → Prop} (h : yWp n d 39 kd_39 S pc L st σ Q) : yR d 39 pc L st σ Q := yWp_sound yGood_ok ck_39 n h
theorem ck_40 : chkC 40 kd_40 = true := by decide +kernel
theorem wp_40 (n : Nat) {d : Nat} (S : List Nat) {pc : Nat} {L : List (Option Value)} {st : List Value} {σ : yS} {Q : Option Value → yS → Prop} (h : yWp n d 40 kd_40 S pc L st σ Q) : yR d 40 pc L st σ Q := yWp_sound yGood_ok ck_40 n h
theorem ck_41 : chkC 41 kd_41 = true := by decide +kernel
theorem wp_41 (n : Nat) {d : Nat} (S : List Nat) {pc : Nat} {L : List (Option Value)} {st : List Value} {σ : yS} {Q : Option Value → yS → Prop} (h : yWp n d 41 kd_41 S pc L st σ Q) : yR d 41 pc L st σ Q := yWp_sound yGood_ok ck_41 n h
theorem ck_42 : chkC 42 kd_42 = true := by decide +kernel
theorem wp_42 (n : Nat) {d : Nat} (S : List Nat) {pc : Nat} {L : List (Option Value)} {st : List Value} {σ : yS} {Q : Option Value → yS → Prop} (h : yWp n d 42 kd_42 S pc L st σ Q) : yR d 42 pc L st σ Q := yWp_sound yGood_ok ck_42 n h
theorem ck_43 : chkC 43 kd_43 = true := by decide +kernel
theorem wp_43 (n : Nat) {d : Nat} (S : List Nat) {pc : Nat} {L : List (Option Value)} {st : List Value} {σ : yS} {Q : Option Value → yS → Prop} (h : yWp n d 43 kd_43 S pc L st σ Q) : yR d 43 pc L st σ Q := yWp_sound yGood_ok ck_43 n h
theorem ck_44 : chkC 44 kd_44 = true := by decide +kernel
theorem wp_44 (n : Nat) {d : Nat} (S : List Nat) {pc : Nat} {L : List (Option Value)} {st : List Value} {σ : yS} {Q : Option Value → yS → Prop} (h : yWp n d 44 kd_44 S pc L st σ Q) : yR d 44 pc L st σ Q := yWp_sound yGood_ok ck_44 n h
theorem ck_45 : chkC 45 kd_45 = true := by decide +kernel
theorem wp_45 (n : Nat) {d : Nat} (S : List Nat) {pc : Nat} {L : List (Option Value)} {st : List Value} {σ : yS} {Q : Option Value → yS → Prop} (h : yWp n d 45 kd_45 S pc L st σ Q) : yR d 45 pc L st σ Q := yWp_sound yGood_ok ck_45 n h
theorem ck_46 : chkC 46 kd_46 = true := by decide +kernel
theorem wp_46 (n : Nat) {d : Nat} (S : List Nat) {pc : Nat} {L : List (Option Value)} {st : List Value} {σ : yS} {Q : Option Value → yS → Prop} (h : yWp n d 46 kd_46 S pc L st σ Q) : yR d 46 pc L st σ Q := yWp_sound yGood_ok ck_46 n h
theorem ck_48 : chkC 48 kd_48 = true := by decide +kernel
theorem wp_48 (n : Nat) {d : Nat} (S : List Nat) {pc : Nat} {L : List (Option Value)} {st : List Value} {σ : yS} {Q : Option Value → yS → Prop} (h : yWp n d 48 kd_48 S pc L st σ Q) : yR d 48 pc L st σ Q := yWp_sound yGood_ok ck_48 n h
theorem ck_49 : chkC 49 kd_49 = true := by decide +kernel
theorem wp_49 (n : Nat) {d : Nat} (S : List Nat) {pc : Nat} {L : List (Option Value)} {st : List Value} {σ : yS} {Q : Option Value → yS → Prop} (h : yWp n d 49 kd_49 S pc L st σ Q) : yR d 49 pc L st σ Q := yWp_sound yGood_ok ck_49 n h
theorem ck_50 : chkC 50 kd_50 = true := by decide +kernel
theorem wp_50 (n : Nat) {d : Nat} (S : List Nat) {pc : Nat} {L : List (Option Value)} {st : List Value} {σ : yS} {Q : Option Value → yS → Prop} (h : yWp n d 50 kd_50 S pc L st σ Q) : yR d 50 pc L st σ Q := yWp_sound yGood_ok ck_50 n h
theorem ck_52 : chkC 52 kd_52 = true := by decide +kernel
theorem wp_52 (n : Nat) {d : Nat} (S : List Nat) {pc : Nat} {L : List (Option Value)} {st : List Value} {σ : yS} {Q : Option Value → yS → Prop} (h : yWp n d 52 kd_52 S pc L st σ Q) : yR d 52 pc L st σ Q := yWp_sound yGood_ok ck_52 n h
theorem ck_53 : chkC 53 kd_53 = true := by decide +kernel
theorem wp_53 (n : Nat) {d : Nat} (S : List Nat) {pc : Nat} {L : List (Option Value)} {st : List Value} {σ : yS} {Q : Option Value → yS → Prop} (h : yWp n d 53 kd_53 S pc L st σ Q) : yR d 53 pc L st σ Q := yWp_sound yGood_ok ck_53 n h
theorem ck_54 : chkC 54 kd_54 = true := by decide +kernel
theorem wp_54 (n : Nat) {d : Nat} (S : List Nat) {pc : Nat} {L : List (Option Value)} {st : List Value} {σ : yS} {Q : Option Value → yS → Prop} (h : yWp n d 54 kd_54 S pc L st σ Q) : yR d 54 pc L st σ Q := yWp_sound yGood_ok ck_54 n h
theorem ck_55 : chkC 55 kd_55 = true := by decide +kernel
theorem wp_55 (n : Nat) {d : Nat} (S : List Nat) {pc : Nat} {L : List (Option Value)} {st : List Value} {σ : yS} {Q : Option Value → yS → Prop} (h : yWp n d 55 kd_55 S pc L st σ Q) : yR d 55 pc L st σ Q := yWp_sound yGood_ok ck_55 n h
theorem ck_56 : chkC 56 kd_56 = true := by decide +kernel
theorem wp_56 (n : Nat) {d : Nat} (S : List Nat) {pc : Nat} {L : List (Option Value)} {st : List Value} {σ : yS} {Q : Option Value → yS → Prop} (h : yWp n d 56 kd_56 S pc L st σ Q) : yR d 56 pc L st σ Q := yWp_sound yGood_ok ck_56 n h
theorem ck_57 : chkC 57 kd_57 = true := by decide +kernel
theorem wp_57 (n : Nat) {d : Nat} (S : List Nat) {pc : Nat} {L : List (Option Value)} {st : List Value} {σ : yS} {Q : Option Value → yS → Prop} (h : yWp n d 57 kd_57 S pc L st σ Q) : yR d 57 pc L st σ Q := yWp_sound yGood_ok ck_57 n h
theorem ck_58 : chkC 58 kd_58 = true := by decide +kernel
theorem wp_58 (n : Nat) {d : Nat} (S : List Nat) {pc : Nat} {L : List (Option Value)} {st : List Value} {σ : yS} {Q : Option Value → yS → Prop} (h : yWp n d 58 kd_58 S pc L st σ Q) : yR d 58 pc L st σ Q := yWp_sound yGood_ok ck_58 n h
theorem ck_59 : chkC 59 kd_59 = true := by decide +kernel
theorem wp_59 (n : Nat) {d : Nat} (S : List Nat) {pc : Nat} {L : List (Option Value)} {st : List Value} {σ : yS} {Q : Option Value → yS → Prop} (h : yWp n d 59 kd_59 S pc L st σ Q) : yR d 59 pc L st σ Q := yWp_sound yGood_ok ck_59 n h
theorem ck_60 : chkC 60 kd_60 = true := by decide +kernel
theorem wp_60 (n : Nat) {d : Nat} (S : List Nat) {pc : Nat} {L : List (Option Value)} {st : List Value} {σ : yS} {Q : Option Value → yS → Prop} (h : yWp n d 60 kd_60 S pc L st σ Q) : yR d 60 pc L st σ Q := yWp_sound yGood_ok ck_60 n h
theorem ck_61 : chkC 61 kd_61 = true := by decide +kernel
theorem wp_61 (n : Nat) {d : Nat} (S : List Nat) {pc : Nat} {L : List (Option Value)} {st : List Value} {σ : yS} {Q : Option Value → yS → Prop} (h : yWp n d 61 kd_61 S pc L st σ Q) : yR d 61 pc L st σ Q := yWp_sound yGood_ok ck_61 n h
theorem ck_62 : chkC 62 kd_62 = true := by decide +kernel
theorem wp_62 (n : Nat) {d : Nat} (S : List Nat) {pc : Nat} {L : List (Option Value)} {st : List Value} {σ : yS} {Q : Option Value → yS → Prop} (h : yWp n d 62 kd_62 S pc L st σ Q) : yR d 62 pc L st σ Q := yWp_sound yGood_ok ck_62 n h
theorem ck_63 : chkC 63 kd_63 = true := by decide +kernel
theorem wp_63 (n : Nat) {d : Nat} (S : List Nat) {pc : Nat} {L : List (Option Value)} {st : List Value} {σ : yS} {Q : Option Value → yS → Prop} (h : yWp n d 63 kd_63 S pc L st σ Q) : yR d 63 pc L st σ Q := yWp_sound yGood_ok ck_63 n h
theorem ck_64 : chkC 64 kd_64 = true := by decide +kernel
theorem wp_64 (n : Nat) {d : Nat} (S : List Nat) {pc : Nat} {L : List (Option Value)} {st : List Value} {σ : yS} {Q : Option Value → yS → Prop} (h : yWp n d 64 kd_64 S pc L st σ Q) : yR d 64 pc L st σ Q := yWp_sound yGood_ok ck_64 n h
theorem ck_65 : chkC 65 kd_65 = true := by decide +kernel
theorem wp_65 (n : Nat) {d : Nat} (S : List Nat) {pc : Nat} {L : List (Option Value)} {st : List Value} {σ : yS} {Q : Option Value → yS → Prop} (h : yWp n d 65 kd_65 S pc L st σ Q) : yR d 65 pc L st σ Q := yWp_sound yGood_ok ck_65 n h
theorem ck_66 : chkC 66 kd_66 = true := by decide +kernel
theorem wp_66 (n : Nat) {d : Nat} (S : List Nat) {pc : Nat} {L : List (Option Value)} {st : List Value} {σ : yS} {Q : Option Value → yS → Prop} (h : yWp n d 66 kd_66 S pc L st σ Q) : yR d 66 pc L st σ Q := yWp_sound yGood_ok ck_66 n h
theorem ck_67 : chkC 67 kd_67 = true := by decide +kernel
theorem wp_67 (n : Nat) {d : Nat} (S : List Nat) {pc : Nat} {L : List (Option Value)} {st : List Value} {σ : yS} {Q : Option Value → yS → Prop} (h : yWp n d 67 kd_67 S pc L st σ Q) : yR d 67 pc L st σ Q := yWp_sound yGood_ok ck_67 n h
theorem ck_68 : chkC 68 kd_68 = true := by decide +kernel
theorem wp_68 (n : Nat) {d : Nat} (S : List Nat) {pc : Nat} {L : List (Option Value)} {st : List Value} {σ : yS} {Q : Option Value → yS → Prop} (h : yWp n d 68 kd_68 S pc L st σ Q) : yR d 68 pc L st σ Q := yWp_sound yGood_ok ck_68 n h
theorem ck_69 : chkC 69 kd_69 = true := by decide +kernel
theorem wp_69 (n : Nat) {d : Nat} (S : List Nat) {pc : Nat} {L : List (Option Value)} {st : List Value} {σ : yS} {Q : Option Value → yS → Prop} (h : yWp n d 69 kd_69 S pc L st σ Q) : yR d 69 pc L st σ Q := yWp_sound yGood_ok ck_69 n h
theorem ck_70 : chkC 70 kd_70 = true := by decide +kernel
theorem wp_70 (n : Nat) {d : Nat} (S : List Nat) {pc : Nat} {L : List (Option Value)} {st : List Value} {σ : yS} {Q : Option Value → yS → Prop} (h : yWp n d 70 kd_70 S pc L st σ Q) : yR d 70 pc L st σ Q := yWp_sound yGood_ok ck_70 n h
theorem ck_71 : chkC 71 kd_71 = true := by decide +kernel
theorem wp_71 (n : Nat) {d : Nat} (S : List Nat) {pc : Nat} {L : List (Option Value)} {st : List Value} {σ : yS} {Q : Option Value → yS → Prop} (h : yWp n d 71 kd_71 S pc L st σ Q) : yR d 71 pc L st σ Q := yWp_sound yGood_ok ck_71 n h
theorem ck_72 : chkC 72 kd_72 = true := by decide +kernel
theorem wp_72 (n : Nat) {d : Nat} (S : List Nat) {pc : Nat} {L : List (Option Value)} {st : List Value} {σ : yS} {Q : Option Value → yS → Prop} (h : yWp n d 72 kd_72 S pc L st σ Q) : yR d 72 pc L st σ Q := yWp_sound yGood_ok ck_72 n h
theorem ck_73 : chkC 73 kd_73 = true := by decide +kernel
theorem wp_73 (n : Nat) {d : Nat} (S : List Nat) {pc : Nat} {L : List (Option Value)} {st : List Value} {σ : yS} {Q : Option Value → yS → Prop} (h : yWp n d 73 kd_73 S pc L st σ Q) : yR d 73 pc L st σ Q := yWp_sound yGood_ok ck_73 n h
theorem ck_74 : chkC 74 kd_74 = true := by decide +kernel
theorem wp_74 (n : Nat) {d : Nat} (S : List Nat) {pc : Nat} {L : List (Option Value)} {st : List Value} {σ : yS} {Q : Option Value → yS → Prop} (h : yWp n d 74 kd_74 S pc L st σ Q) : yR d 74 pc L st σ Q := yWp_sound yGood_ok ck_74 n h
theorem ck_75 : chkC 75 kd_75 = true := by decide +kernel
theorem wp_75 (n : Nat) {d : Nat} (S : List Nat) {pc : Nat} {L : List (Option Value)} {st : List Value} {σ : yS} {Q : Option Value → yS → Prop} (h : yWp n d 75 kd_75 S pc L st σ Q) : yR d 75 pc L st σ Q := yWp_sound yGood_ok ck_75 n h
theorem ck_76 : chkC 76 kd_76 = true := by decide +kernel
theorem wp_76 (n : Nat) {d : Nat} (S : List Nat) {pc : Nat} {L : List (Option Value)} {st : List Value} {σ : yS} {Q : Option Value → yS → Prop} (h : yWp n d 76 kd_76 S pc L st σ Q) : yR d 76 pc L st σ Q := yWp_sound yGood_ok ck_76 n h
theorem ck_77 : chkC 77 kd_77 = true := by decide +kernel
theorem wp_77 (n : Nat) {d : Nat} (S : List Nat) {pc : Nat} {L : List (Option Value)} {st : List Value} {σ : yS} {Q : Option Value → yS → Prop} (h : yWp n d 77 kd_77 S pc L st σ Q) : yR d 77 pc L st σ Q := yWp_sound yGood_ok ck_77 n h
theorem ck_78 : chkC 78 kd_78 = true := by decide +kernel
theorem wp_78 (n : Nat) {d : Nat} (S : List Nat) {pc : Nat} {L : List (Option Value)} {st : List Value} {σ : yS} {Q : Option Value → yS → Prop} (h : yWp n d 78 kd_78 S pc L st σ Q) : yR d 78 pc L st σ Q := yWp_sound yGood_ok ck_78 n h
theorem ck_80 : chkC 80 kd_80 = true := by decide +kernel
theorem wp_80 (n : Nat) {d : Nat} (S : List Nat) {pc : Nat} {L : List (Option Value)} {st : List Value} {σ : yS} {Q : Option Value → yS → Prop} (h : yWp n d 80 kd_80 S pc L st σ Q) : yR d 80 pc L st σ Q := yWp_sound yGood_ok ck_80 n h
theorem ck_81 : chkC 81 kd_81 = true := by decide +kernel
theorem wp_81 (n : Nat) {d : Nat} (S : List Nat) {pc : Nat} {L : List (Option Value)} {st : List Value} {σ : yS} {Q : Option Value → yS → Prop} (h : yWp n d 81 kd_81 S pc L st σ Q) : yR d 81 pc L st σ Q := yWp_sound yGood_ok ck_81 n h
theorem ck_82 : chkC 82 kd_82 = true := by decide +kernel
theorem wp_82 (n : Nat) {d : Nat} (S : List Nat) {pc : Nat} {L : List (Option Value)} {st : List Value} {σ : yS} {Q : Option Value → yS → Prop} (h : yWp n d 82 kd_82 S pc L st σ Q) : yR d 82 pc L st σ Q := yWp_sound yGood_ok ck_82 n h
theorem ck_83 : chkC 83 kd_83 = true := by decide +kernel
theorem wp_83 (n : Nat) {d : Nat} (S : List Nat) {pc : Nat} {L : List (Option Value)} {st : List Value} {σ : yS} {Q : Option Value → yS → Prop} (h : yWp n d 83 kd_83 S pc L st σ Q) : yR d 83 pc L st σ Q := yWp_sound yGood_ok ck_83 n h
theorem ck_84 : chkC 84 kd_84 = true := by decide +kernel
theorem wp_84 (n : Nat) {d : Nat} (S : List Nat) {pc : Nat} {L : List (Option Value)} {st : List Value} {σ : yS} {Q : Option Value → yS → Prop} (h : yWp n d 84 kd_84 S pc L st σ Q) : yR d 84 pc L st σ Q := yWp_sound yGood_ok ck_84 n h
theorem ck_85 : chkC 85 kd_85 = true := by decide +kernel
theorem wp_85 (n : Nat) {d : Nat} (S : List Nat) {pc : Nat} {L : List (Option Value)} {st : List Value} {σ : yS} {Q : Option Value → yS → Prop} (h : yWp n d 85 kd_85 S pc L st σ Q) : yR d 85 pc L st σ Q := yWp_sound yGood_ok ck_85 n h
theorem ck_86 : chkC 86 kd_86 = true := by decide +kernel
theorem wp_86 (n : Nat) {d : Nat} (S : List Nat) {pc : Nat} {L : List (Option Value)} {st : List Value} {σ : yS} {Q : Option Value → yS → Prop} (h : yWp n d 86 kd_86 S pc L st σ Q) : yR d 86 pc L st σ Q := yWp_sound yGood_ok ck_86 n h
theorem ck_87 : chkC 87 kd_87 = true := by decide +kernel
theorem wp_87 (n : Nat) {d : Nat} (S : List Nat) {pc : Nat} {L : List (Option Value)} {st : List Value} {σ : yS} {Q : Option Value → yS → Prop} (h : yWp n d 87 kd_87 S pc L st σ Q) : yR d 87 pc L st σ Q := yWp_sound yGood_ok ck_87 n h
theorem ck_88 : chkC 88 kd_88 = true := by decide +kernel
theorem wp_88 (n : Nat) {d : Nat} (S : List Nat) {pc : Nat} {L : List (Option Value)} {st : List Value} {σ : yS} {Q : Option Value → yS → Prop} (h : yWp n d 88 kd_88 S pc L st σ Q) : yR d 88 pc L st σ Q := yWp_sound yGood_ok ck_88 n h
theorem ck_89 : chkC 89 kd_89 = true := by decide +kernel
theorem wp_89 (n : Nat) {d : Nat} (S : List Nat) {pc : Nat} {L : List (Option Value)} {st : List Value} {σ : yS} {Q : Option Value → yS → Prop} (h : yWp n d 89 kd_89 S pc L st σ Q) : yR d 89 pc L st σ Q := yWp_sound yGood_ok ck_89 n h
theorem ck_90 : chkC 90 kd_90 = true := by decide +kernel
theorem wp_90 (n : Nat) {d : Nat} (S : List Nat) {pc : Nat} {L : List (Option Value)} {st : List Value} {σ : yS} {Q : Option Value → yS → Prop} (h : yWp n d 90 kd_90 S pc L st σ Q) : yR d 90 pc L st σ Q := yWp_sound yGood_ok ck_90 n h
theorem ck_91 : chkC 91 kd_91 = true := by decide +kernel
theorem wp_91 (n : Nat) {d : Nat} (S : List Nat) {pc : Nat} {L : List (Option Value)} {st : List Value} {σ : yS} {Q : Option Value → yS → Prop} (h : yWp n d 91 kd_91 S pc L st σ Q) : yR d 91 pc L st σ Q := yWp_sound yGood_ok ck_91 n h
theorem ck_92 : chkC 92 kd_92 = true := by decide +kernel
theorem wp_92 (n : Nat) {d : Nat} (S : List Nat) {pc : Nat} {L : List (Option Value)} {st : List Value} {σ : yS} {Q : Option Value → yS → Prop} (h : yWp n d 92 kd_92 S pc L st σ Q) : yR d 92 pc L st σ Q := yWp_sound yGood_ok ck_92 n h
theorem ck_93 : chkC 93 kd_93 = true := by decide +kernel
theorem wp_93 (n : Nat) {d : Nat} (S : List Nat) {pc : Nat} {L : List (Option Value)} {st : List Value} {σ : yS} {Q : Option Value → yS → Prop} (h : yWp n d 93 kd_93 S pc L st σ Q) : yR d 93 pc L st σ Q := yWp_sound yGood_ok ck_93 n h
theorem ck_94 : chkC 94 kd_94 = true := by decide +kernel
theorem wp_94 (n : Nat) {d : Nat} (S : List Nat) {pc : Nat} {L : List (Option Value)} {st : List Value} {σ : yS} {Q : Option Value → yS → Prop} (h : yWp n d 94 kd_94 S pc L st σ Q) : yR d 94 pc L st σ Q := yWp_sound yGood_ok ck_94 n h
theorem ck_95 : chkC 95 kd_95 = true := by decide +kernel
theorem wp_95 (n : Nat) {d : Nat} (S : List Nat) {pc : Nat} {L : List (Option Value)} {st : List Value} {σ : yS} {Q : Option Value → yS → Prop} (h : yWp n d 95 kd_95 S pc L st σ Q) : yR d 95 pc L st σ Q := yWp_sound yGood_ok ck_95 n h
theorem ck_96 : chkC 96 kd_96 = true := by decide +kernel
theorem wp_96 (n : Nat) {d : Nat} (S : List Nat) {pc : Nat} {L : List (Option Value)} {st : List Value} {σ : yS} {Q : Option Value → yS → Prop} (h : yWp n d 96 kd_96 S pc L st σ Q) : yR d 96 pc L st σ Q := yWp_sound yGood_ok ck_96 n h
theorem ck_97 : chkC 97 kd_97 = true := by decide +kernel
theorem wp_97 (n : Nat) {d : Nat} (S : List Nat) {pc : Nat} {L : List (Option Value)} {st : List Value} {σ : yS} {Q : Option Value → yS → Prop} (h : yWp n d 97 kd_97 S pc L st σ Q) : yR d 97 pc L st σ Q := yWp_sound yGood_ok ck_97 n h
theorem ck_98 : chkC 98 kd_98 = true := by decide +kernel
theorem wp_98 (n : Nat) {d : Nat} (S : List Nat) {pc : Nat} {L : List (Option Value)} {st : List Value} {σ : yS} {Q : Option Value → yS → Prop} (h : yWp n d 98 kd_98 S pc L st σ Q) : yR d 98 pc L st σ Q := yWp_sound yGood_ok ck_98 n h
theorem ck_99 : chkC 99 kd_99 = true := by decide +kernel
theorem wp_99 (n : Nat) {d : Nat} (S : List Nat) {pc : Nat} {L : List (Option Value)} {st : List Value} {σ : yS} {Q : Option Value → yS → Prop} (h : yWp n d 99 kd_99 S pc L st σ Q) : yR d 99 pc L st σ Q := yWp_sound yGood_ok ck_99 n h
theorem ck_100 : chkC 100 kd_100 = true := by decide +kernel
theorem wp_100 (n : Nat) {d : Nat} (S : List Nat) {pc : Nat} {L : List (Option Value)} {st : List Value} {σ : yS} {Q : Option Value → yS → Prop} (h : yWp n d 100 kd_100 S pc L st σ Q) : yR d 100 pc L st σ Q := yWp_sound yGood_ok ck_100 n h
theorem ck_101 : chkC 101 kd_101 = true := by decide +kernel
theorem wp_101 (n : Nat) {d : Nat} (S : List Nat) {pc : Nat} {L : List (Option Value)} {st : List Value} {σ : yS} {Q : Option Value → yS → Prop} (h : yWp n d 101 kd_101 S pc L st σ Q) : yR d 101 pc L st σ Q := yWp_sound yGood_ok ck_101 n h
theorem ck_102 : chkC 102 kd_102 = true := by decide +kernel
theorem wp_102 (n : Nat) {d : Nat} (S : List Nat) {pc : Nat} {L : List (Option Value)} {st : List Value} {σ : yS} {Q : Option Value → yS → Prop} (h : yWp n d 102 kd_102 S pc L st σ Q) : yR d 102 pc L st σ Q := yWp_sound yGood_ok ck_102 n h
theorem ck_103 : chkC 103 kd_103 = true := by decide +kernel
theorem wp_103 (n : Nat) {d : Nat} (S : List Nat) {pc : Nat} {L : List (Option Value)} {st : List Value} {σ : yS} {Q : Option Value → yS → Prop} (h : yWp n d 103 kd_103 S pc L st σ Q) : yR d 103 pc L st σ Q := yWp_sound yGood_ok ck_103 n h
theorem ck_104 : chkC 104 kd_104 = true := by decide +kernel
theorem wp_104 (n : Nat) {d : Nat} (S : List Nat) {pc : Nat} {L : List (Option Value)} {st : List Value} {σ : yS} {Q : Option Value → yS → Prop} (h : yWp n d 104 kd_104 S pc L st σ Q) : yR d 104 pc L st σ Q := yWp_sound yGood_ok ck_104 n h
theorem ck_105 : chkC 105 kd_105 = true := by decide +kernel
theorem wp_105 (n : Nat) {d : Nat} (S : List Nat) {pc : Nat} {L : List (Option Value)} {st : List Value} {σ : yS} {Q : Option Value → yS → Prop} (h : yWp n d 105 kd_105 S pc L st σ Q) : yR d 105 pc L st σ Q := yWp_sound yGood_ok ck_105 n h
theorem ck_106 : chkC 106 kd_106 = true := by decide +kernel
theorem wp_106 (n : Nat) {d : Nat} (S : List Nat) {pc : Nat} {L : List (Option Value)} {st : List Value} {σ : yS} {Q : Option Value → yS → Prop} (h : yWp n d 106 kd_106 S pc L st σ Q) : yR d 106 pc L st σ Q := yWp_sound yGood_ok ck_106 n h
theorem ck_107 : chkC 107 kd_107 = true := by decide +kernel
theorem wp_107 (n : Nat) {d : Nat} (S : List Nat) {pc : Nat} {L : List (Option Value)} {st : List Value} {σ : yS} {Q : Option Value → yS → Prop} (h : yWp n d 107 kd_107 S pc L st σ Q) : yR d 107 pc L st σ Q := yWp_sound yGood_ok ck_107 n h
theorem ck_108 : chkC 108 kd_108 = true := by decide +kernel
theorem wp_108 (n : Nat) {d : Nat} (S : List Nat) {pc : Nat} {L : List (Option Value)} {st : List Value} {σ : yS} {Q : Option Value → yS → Prop} (h : yWp n d 108 kd_108 S pc L st σ Q) : yR d 108 pc L st σ Q := yWp_sound yGood_ok ck_108 n h
theorem ck_109 : chkC 109 kd_109 = true := by decide +kernel
theorem wp_109 (n : Nat) {d : Nat} (S : List Nat) {pc : Nat} {L : List (Option Value)} {st : List Value} {σ : yS} {Q : Option Value → yS → Prop} (h : yWp n d 109 kd_109 S pc L st σ Q) : yR d 109 pc L st σ Q := yWp_sound yGood_ok ck_109 n h
theorem ck_110 : chkC 110 kd_110 = true := by decide +kernel
theorem wp_110 (n : Nat) {d : Nat} (S : List Nat) {pc : Nat} {L : List (Option Value)} {st : List Value} {σ : yS} {Q : Option Value → yS → Prop} (h : yWp n d 110 kd_110 S pc L st σ Q) : yR d 110 pc L st σ Q := yWp_sound yGood_ok ck_110 n h
theorem ck_111 : chkC 111 kd_111 = true := by decide +kernel
theorem wp_111 (n : Nat) {d : Nat} (S : List Nat) {pc : Nat} {L : List (Option Value)} {st : List Value} {σ : yS} {Q : Option Value → yS → Prop} (h : yWp n d 111 kd_111 S pc L st σ Q) : yR d 111 pc L st σ Q := yWp_sound yGood_ok ck_111 n h
theorem ck_112 : chkC 112 kd_112 = true := by decide +kernel
theorem wp_112 (n : Nat) {d : Nat} (S : List Nat) {pc : Nat} {L : List (Option Value)} {st : List Value} {σ : yS} {Q : Option Value → yS → Prop} (h : yWp n d 112 kd_112 S pc L st σ Q) : yR d 112 pc L st σ Q := yWp_sound yGood_ok ck_112 n h
theorem ck_113 : chkC 113 kd_113 = true := by decide +kernel
theorem wp_113 (n : Nat) {d : Nat} (S : List Nat) {pc : Nat} {L : List (Option Value)} {st : List Value} {σ : yS} {Q : Option Value → yS → Prop} (h : yWp n d 113 kd_113 S pc L st σ Q) : yR d 113 pc L st σ Q := yWp_sound yGood_ok ck_113 n h
theorem ck_114 : chkC 114 kd_114 = true := by decide +kernel
theorem wp_114 (n : Nat) {d : Nat} (S : List Nat) {pc : Nat} {L : List (Option Value)} {st : List Value} {σ : yS} {Q : Option Value → yS → Prop} (h : yWp n d 114 kd_114 S pc L st σ Q) : yR d 114 pc L st σ Q := yWp_sound yGood_ok ck_114 n h
theorem ck_115 : chkC 115 kd_115 = true := by decide +kernel
theorem wp_115 (n : Nat) {d : Nat} (S : List Nat) {pc : Nat} {L : List (Option Value)} {st : List Value} {σ : yS} {Q : Option Value → yS → Prop} (h : yWp n d 115 kd_115 S pc L st σ Q) : yR d 115 pc L st σ Q := yWp_sound yGood_ok ck_115 n h
theorem ck_116 : chkC 116 kd_116 = true := by decide +kernel
theorem wp_116 (n : Nat) {d : Nat} (S : List Nat) {pc : Nat} {L : List (Option Value)} {st : List Value} {σ : yS} {Q : Option Value → yS → Prop} (h : yWp n d 116 kd_116 S pc L st σ Q) : yR d 116 pc L st σ Q := yWp_sound yGood_ok ck_116 n h
theorem ck_117 : chkC 117 kd_117 = true := by decide +kernel
theorem wp_117 (n : Nat) {d : Nat} (S : List Nat) {pc : Nat} {L : List (Option Value)} {st : List Value} {σ : yS} {Q : Option Value → yS → Prop} (h : yWp n d 117 kd_117 S pc L st σ Q) : yR d 117 pc L st σ Q := yWp_sound yGood_ok ck_117 n h
theorem ck_118 : chkC 118 kd_118 = true := by decide +kernel
theorem wp_118 (n : Nat) {d : Nat} (S : List Nat) {pc : Nat} {L : List (Option Value)} {st : List Value} {σ : yS} {Q : Option Value → yS → Prop} (h : yWp n d 118 kd_118 S pc L st σ Q) : yR d 118 pc L st σ Q := yWp_sound yGood_ok ck_118 n h
theorem ck_119 : chkC 119 kd_119 = true := by decide +kernel
theorem wp_119 (n : Nat) {d : Nat} (S : List Nat) {pc : Nat} {L : List (Option Value)} {st : List Value} {σ : yS} {Q : Option Value → yS → Prop} (h : yWp n d 119 kd_119 S pc L st σ Q) : yR d 119 pc L st σ Q := yWp_sound yGood_ok ck_119 n h
theorem ck_120 : chkC 120 kd_120 = true := by decide +kernel
theorem wp_120 (n : Nat) {d : Nat} (S : List Nat) {pc : Nat} {L : List (Option Value)} {st : List Value} {σ : yS} {Q : Option Value → yS → Prop} (h : yWp n d 120 kd_120 S pc L st σ Q) : yR d 120 pc L st σ Q := yWp_sound yGood_ok ck_120 n h
theorem ck_121 : chkC 121 kd_121 = true := by decide +kernel
theorem wp_121 (n : Nat) {d : Nat} (S : List Nat) {pc : Nat} {L : List (Option Value)} {st : List Value} {σ : yS} {Q : Option Value → yS → Prop} (h : yWp n d 121 kd_121 S pc L st σ Q) : yR d 121 pc L st σ Q := yWp_sound yGood_ok ck_121 n h
theorem ck_122 : chkC 122 kd_122 = true := by decide +kernel
theorem wp_122 (n : Nat) {d : Nat} (S : List Nat) {pc : Nat} {L : List (Option Value)} {st : List Value} {σ : yS} {Q : Option Value → yS → Prop} (h : yWp n d 122 kd_122 S pc L st σ Q) : yR d 122 pc L st σ Q := yWp_sound yGood_ok ck_122 n h
theorem ck_123 : chkC 123 kd_123 = true := by decide +kernel
theorem wp_123 (n : Nat) {d : Nat} (S : List Nat) {pc : Nat} {L : List (Option Value)} {st : List Value} {σ : yS} {Q : Option Value → yS → Prop} (h : yWp n d 123 kd_123 S pc L st σ Q) : yR d 123 pc L st σ Q := yWp_sound yGood_ok ck_123 n h
theorem ck_124 : chkC 124 kd_124 = true := by decide +kernel
theorem wp_124 (n : Nat) {d : Nat} (S : List Nat) {pc : Nat} {L : List (Option Value)} {st : List Value} {σ : yS} {Q : Option Value → yS → Prop} (h : yWp n d 124 kd_124 S pc L st σ Q) : yR d 124 pc L st σ Q := yWp_sound yGood_ok ck_124 n h
theorem ck_125 : chkC 125 kd_125 = true := by decide +kernel
theorem wp_125 (n : Nat) {d : Nat} (S : List Nat) {pc : Nat} {L : List (Option Value)} {st : List Value} {σ : yS} {Q : Option Value → yS → Prop} (h : yWp n d 125 kd_125 S pc L st σ Q) : yR d 125 pc L st σ Q := yWp_sound yGood_ok ck_125 n h
theorem ck_126 : chkC 126 kd_126 = true := by decide +kernel
theorem wp_126 (n : Nat) {d : Nat} (S : List Nat) {pc : Nat} {L : List (Option Value)} {st : List Value} {σ : yS} {Q : Option Value → yS → Prop} (h : yWp n d 126 kd_126 S pc L st σ Q) : yR d 126 pc L st σ Q := yWp_sound yGood_ok ck_126 n h
theorem ck_127 : chkC 127 kd_127 = true := by decide +kernel
theorem wp_127 (n : Nat) {d : Nat} (S : List Nat) {pc : Nat} {L : List (Option Value)} {st : List Value} {σ : yS} {Q : Option Value → yS → Prop} (h : yWp n d 127 kd_127 S pc L st σ Q) : yR d 127 pc L st σ Q := yWp_sound yGood_ok ck_127 n h
theorem ck_128 : chkC 128 kd_128 = true := by decide +kernel
theorem wp_128 (n : Nat) {d : Nat} (S : List Nat) {pc : Nat} {L : List (Option Value)} {st : List Value} {σ : yS} {Q : Option Value → yS → Prop} (h : yWp n d 128 kd_128 S pc L st σ Q) : yR d 128 pc L st σ Q := yWp_sound yGood_ok ck_128 n h
theorem ck_129 : chkC 129 kd_129 = true := by decide +kernel
theorem wp_129 (n : Nat) {d : Nat} (S : List Nat) {pc : Nat} {L : List (Option Value)} {st : List Value} {σ : yS} {Q : Option Value → yS → Prop} (h : yWp n d 129 kd_129 S pc L st σ Q) : yR d 129 pc L st σ Q := yWp_sound yGood_ok ck_129 n h
theorem ck_130 : chkC 130 kd_130 = true := by decide +kernel
theorem wp_130 (n : Nat) {d : Nat} (S : List Nat) {pc : Nat} {L : List (Option Value)} {st : List Value} {σ : yS} {Q : Option Value → yS → Prop} (h : yWp n d 130 kd_130 S pc L st σ Q) : yR d 130 pc L st σ Q := yWp_sound yGood_ok ck_130 n h
theorem ck_131 : chkC 131 kd_131 = true := by decide +kernel
theorem wp_131 (n : Nat) {d : Nat} (S : List Nat) {pc : Nat} {L : List (Option Value)} {st : List Value} {σ : yS} {Q : Option Value → yS → Prop} (h : yWp n d 131 kd_131 S pc L st σ Q) : yR d 131 pc L st σ Q := yWp_sound yGood_ok ck_131 n h
theorem ck_132 : chkC 132 kd_132 = true := by decide +kernel
theorem wp_132 (n : Nat) {d : Nat} (S : List Nat) {pc : Nat} {L : List (Option Value)} {st : List Value} {σ : yS} {Q : Option Value → yS → Prop} (h : yWp n d 132 kd_132 S pc L st σ Q) : yR d 132 pc L st σ Q := yWp_sound yGood_ok ck_132 n h
theorem ck_133 : chkC 133 kd_133 = true := by decide +kernel
theorem wp_133 (n : Nat) {d : Nat} (S : List Nat) {pc : Nat} {L : List (Option Value)} {st : List Value} {σ : yS} {Q : Option Value → yS → Prop} (h : yWp n d 133 kd_133 S pc L st σ Q) : yR d 133 pc L st σ Q := yWp_sound yGood_ok ck_133 n h
theorem ck_134 : chkC 134 kd_134 = true := by decide +kernel
theorem wp_134 (n : Nat) {d : Nat} (S : List Nat) {pc : Nat} {L : List (Option Value)} {st : List Value} {σ : yS} {Q : Option Value → yS → Prop} (h : yWp n d 134 kd_134 S pc L st σ Q) : yR d 134 pc L st σ Q := yWp_sound yGood_ok ck_134 n h
theorem ck_135 : chkC 135 kd_135 = true := by decide +kernel
theorem wp_135 (n : Nat) {d : Nat} (S : List Nat) {pc : Nat} {L : List (Option Value)} {st : List Value} {σ : yS} {Q : Option Value → yS → Prop} (h : yWp n d 135 kd_135 S pc L st σ Q) : yR d 135 pc L st σ Q := yWp_sound yGood_ok ck_135 n h
theorem ck_136 : chkC 136 kd_136 = true := by decide +kernel
theorem wp_136 (n : Nat) {d : Nat} (S : List Nat) {pc : Nat} {L : List (Option Value)} {st : List Value} {σ : yS} {Q : Option Value → yS → Prop} (h : yWp n d 136 kd_136 S pc L st σ Q) : yR d 136 pc L st σ Q := yWp_sound yGood_ok ck_136 n h
theorem ck_137 : chkC 137 kd_137 = true := by decide +kernel
theorem wp_137 (n : Nat) {d : Nat} (S : List Nat) {pc : Nat} {L : List (Option Value)} {st : List Value} {σ : yS} {Q : Option Value → yS → Prop} (h : yWp n d 137 kd_137 S pc L st σ Q) : yR d 137 pc L st σ Q := yWp_sound yGood_ok ck_137 n h
theorem ck_138 : chkC 138 kd_138 = true := by decide +kernel
theorem wp_138 (n : Nat) {d : Nat} (S : List Nat) {pc : Nat} {L : List (Option Value)} {st : List Value} {σ : yS} {Q : Option Value → yS → Prop} (h : yWp n d 138 kd_138 S pc L st σ Q) : yR d 138 pc L st σ Q := yWp_sound yGood_ok ck_138 n h
theorem ck_139 : chkC 139 kd_139 = true := by decide +kernel
theorem wp_139 (n : Nat) {d : Nat} (S : List Nat) {pc : Nat} {L : List (Option Value)} {st : List Value} {σ : yS} {Q : Option Value → yS → Prop} (h : yWp n d 139 kd_139 S pc L st σ Q) : yR d 139 pc L st σ Q := yWp_sound yGood_ok ck_139 n h
theorem ck_140 : chkC 140 kd_140 = true := by decide +kernel
theorem wp_140 (n : Nat) {d : Nat} (S : List Nat) {pc : Nat} {L : List (Option Value)} {st : List Value} {σ : yS} {Q : Option Value → yS → Prop} (h : yWp n d 140 kd_140 S pc L st σ Q) : yR d 140 pc L st σ Q := yWp_sound yGood_ok ck_140 n h
theorem ck_141 : chkC 141 kd_141 = true := by decide +kernel
theorem wp_141 (n : Nat) {d : Nat} (S : List Nat) {pc : Nat} {L : List (Option Value)} {st : List Value} {σ : yS} {Q : Option Value → yS → Prop} (h : yWp n d 141 kd_141 S pc L st σ Q) : yR d 141 pc L st σ Q := yWp_sound yGood_ok ck_141 n h
theorem ck_142 : chkC 142 kd_142 = true := by decide +kernel
theorem wp_142 (n : Nat) {d : Nat} (S : List Nat) {pc : Nat} {L : List (Option Value)} {st : List Value} {σ : yS} {Q : Option Value → yS → Prop} (h : yWp n d 142 kd_142 S pc L st σ Q) : yR d 142 pc L st σ Q := yWp_sound yGood_ok ck_142 n h
theorem ck_143 : chkC 143 kd_143 = true := by decide +kernel
theorem wp_143 (n : Nat) {d : Nat} (S : List Nat) {pc : Nat} {L : List (Option Value)} {st : List Value} {σ : yS} {Q : Option Value → yS → Prop} (h : yWp n d 143 kd_143 S pc L st σ Q) : yR d 143 pc L st σ Q := yWp_sound yGood_ok ck_143 n h
theorem ck_144 : chkC 144 kd_144 = true := by decide +kernel
theorem wp_144 (n : Nat) {d : Nat} (S : List Nat) {pc : Nat} {L : List (Option Value)} {st : List Value} {σ : yS} {Q : Option Value → yS → Prop} (h : yWp n d 144 kd_144 S pc L st σ Q) : yR d 144 pc L st σ Q := yWp_sound yGood_ok ck_144 n h
theorem ck_145 : chkC 145 kd_145 = true := by decide +kernel
theorem wp_145 (n : Nat) {d : Nat} (S : List Nat) {pc : Nat} {L : List (Option Value)} {st : List Value} {σ : yS} {Q : Option Value → yS → Prop} (h : yWp n d 145 kd_145 S pc L st σ Q) : yR d 145 pc L st σ Q := yWp_sound yGood_ok ck_145 n h
theorem ck_146 : chkC 146 kd_146 = true := by decide +kernel
theorem wp_146 (n : Nat) {d : Nat} (S : List Nat) {pc : Nat} {L : List (Option Value)} {st : List Value} {σ : yS} {Q : Option Value → yS → Prop} (h : yWp n d 146 kd_146 S pc L st σ Q) : yR d 146 pc L st σ Q := yWp_sound yGood_ok ck_146 n h
theorem ck_147 : chkC 147 kd_147 = true := by decide +kernel
theorem wp_147 (n : Nat) {d : Nat} (S : List Nat) {pc : Nat} {L : List (Option Value)} {st : List Value} {σ : yS} {Q : Option Value → yS → Prop} (h : yWp n d 147 kd_147 S pc L st σ Q) : yR d 147 pc L st σ Q := yWp_sound yGood_ok ck_147 n h
theorem ck_148 : chkC 148 kd_148 = true := by decide +kernel
theorem wp_148 (n : Nat) {d : Nat} (S : List Nat) {pc : Nat} {L : List (Option Value)} {st : List Value} {σ : yS} {Q : Option Value → yS → Prop} (h : yWp n d 148 kd_148 S pc L st σ Q) : yR d 148 pc L st σ Q := yWp_sound yGood_ok ck_148 n h
theorem ck_149 : chkC 149 kd_149 = true := by decide +kernel
theorem wp_149 (n : Nat) {d : Nat} (S : List Nat) {pc : Nat} {L : List (Option Value)} {st : List Value} {σ : yS} {Q : Option Value → yS → Prop} (h : yWp n d 149 kd_149 S pc L st σ Q) : yR d 149 pc L st σ Q := yWp_sound yGood_ok ck_149 n h
