/-! facts of each method's table (written by wip/p66/gen/part24_66.py) -/
theorem c0 (pc : Nat) {x : JI} (h : cd_0.lookup pc = some x) : jcode 0 pc = some x := h
theorem hh0 : jhh 0 = [] := rfl
theorem js0 : unt 10 = jcls 0 := by decide +kernel
theorem c1 (pc : Nat) {x : JI} (h : cd_1.lookup pc = some x) : jcode 1 pc = some x := h
theorem hh1 : jhh 1 = [] := rfl
theorem c2 (pc : Nat) {x : JI} (h : cd_2.lookup pc = some x) : jcode 2 pc = some x := h
theorem hh2 : jhh 2 = [] := rfl
theorem js2 : unt 6 = jcls 2 := by decide +kernel
theorem c3 (pc : Nat) {x : JI} (h : cd_3.lookup pc = some x) : jcode 3 pc = some x := h
theorem hh3 : jhh 3 = [] := rfl
theorem js3 : unt 7 = jcls 3 := by decide +kernel
theorem c4 (pc : Nat) {x : JI} (h : cd_4.lookup pc = some x) : jcode 4 pc = some x := h
theorem hh4 : jhh 4 = [] := rfl
theorem js4 : unt 5 = jcls 4 := by decide +kernel
theorem c5 (pc : Nat) {x : JI} (h : cd_5.lookup pc = some x) : jcode 5 pc = some x := h
theorem hh5 : jhh 5 = [] := rfl
theorem js5 : unt 8 = jcls 5 := by decide +kernel
theorem c6 (pc : Nat) {x : JI} (h : cd_6.lookup pc = some x) : jcode 6 pc = some x := h
theorem hh6 : jhh 6 = [] := rfl
theorem c7 (pc : Nat) {x : JI} (h : cd_7.lookup pc = some x) : jcode 7 pc = some x := h
theorem hh7 : jhh 7 = [] := rfl
theorem js7 : unt 4 = jcls 7 := by decide +kernel
theorem c8 (pc : Nat) {x : JI} (h : cd_8.lookup pc = some x) : jcode 8 pc = some x := h
theorem hh8 : jhh 8 = [] := rfl
theorem js8 : unt 9 = jcls 8 := by decide +kernel
theorem c9 (pc : Nat) {x : JI} (h : cd_9.lookup pc = some x) : jcode 9 pc = some x := h
theorem hh9 : jhh 9 = [] := rfl
theorem js9 : unt 3 = jcls 9 := by decide +kernel
theorem c10 (pc : Nat) {x : JI} (h : cd_10.lookup pc = some x) : jcode 10 pc = some x := h
theorem hh10 : jhh 10 = [] := rfl
theorem js10 : unt 2 = jcls 10 := by decide +kernel
theorem c11 (pc : Nat) {x : JI} (h : cd_11.lookup pc = some x) : jcode 11 pc = some x := h
theorem hh11 : jhh 11 = [] := rfl
theorem js11 : unt 1 = jcls 11 := by decide +kernel
theorem c12 (pc : Nat) {x : JI} (h : cd_12.lookup pc = some x) : jcode 12 pc = some x := h
theorem hh12 : jhh 12 = [] := rfl
theorem js12 : unt 0 = jcls 12 := by decide +kernel
theorem c13 (pc : Nat) {x : JI} (h : cd_13.lookup pc = some x) : jcode 13 pc = some x := h
theorem hh13 : jhh 13 = [] := rfl
theorem js13 : unt 10 = jcls 13 := by decide +kernel
theorem c14 (pc : Nat) {x : JI} (h : cd_14.lookup pc = some x) : jcode 14 pc = some x := h
theorem hh14 : jhh 14 = [] := rfl
theorem js14 : unt 3 = jcls 14 := by decide +kernel
theorem c15 (pc : Nat) {x : JI} (h : cd_15.lookup pc = some x) : jcode 15 pc = some x := h
theorem hh15 : jhh 15 = [] := rfl
theorem js15 : unt 7 = jcls 15 := by decide +kernel
theorem c16 (pc : Nat) {x : JI} (h : cd_16.lookup pc = some x) : jcode 16 pc = some x := h
theorem hh16 : jhh 16 = [] := rfl
theorem js16 : unt 3 = jcls 16 := by decide +kernel
theorem c17 (pc : Nat) {x : JI} (h : cd_17.lookup pc = some x) : jcode 17 pc = some x := h
theorem hh17 : jhh 17 = [] := rfl
theorem js17 : unt 3 = jcls 17 := by decide +kernel
theorem c18 (pc : Nat) {x : JI} (h : cd_18.lookup pc = some x) : jcode 18 pc = some x := h
theorem hh18 : jhh 18 = [] := rfl
theorem js18 : unt 3 = jcls 18 := by decide +kernel
theorem c19 (pc : Nat) {x : JI} (h : cd_19.lookup pc = some x) : jcode 19 pc = some x := h
theorem hh19 : jhh 19 = [] := rfl
theorem js19 : unt 3 = jcls 19 := by decide +kernel
theorem c20 (pc : Nat) {x : JI} (h : cd_20.lookup pc = some x) : jcode 20 pc = some x := h
theorem hh20 : jhh 20 = [] := rfl
theorem js20 : unt 15 = jcls 20 := by decide +kernel
theorem c21 (pc : Nat) {x : JI} (h : cd_21.lookup pc = some x) : jcode 21 pc = some x := h
theorem hh21 : jhh 21 = [] := rfl
theorem js21 : unt 15 = jcls 21 := by decide +kernel
theorem c22 (pc : Nat) {x : JI} (h : cd_22.lookup pc = some x) : jcode 22 pc = some x := h
theorem hh22 : jhh 22 = [] := rfl
theorem js22 : unt 15 = jcls 22 := by decide +kernel
theorem c23 (pc : Nat) {x : JI} (h : cd_23.lookup pc = some x) : jcode 23 pc = some x := h
theorem hh23 : jhh 23 = [] := rfl
theorem js23 : unt 15 = jcls 23 := by decide +kernel
theorem c24 (pc : Nat) {x : JI} (h : cd_24.lookup pc = some x) : jcode 24 pc = some x := h
theorem hh24 : jhh 24 = [] := rfl
theorem c25 (pc : Nat) {x : JI} (h : cd_25.lookup pc = some x) : jcode 25 pc = some x := h
theorem hh25 : jhh 25 = [] := rfl
theorem c26 (pc : Nat) {x : JI} (h : cd_26.lookup pc = some x) : jcode 26 pc = some x := h
theorem hh26 : jhh 26 = [] := rfl
theorem c27 (pc : Nat) {x : JI} (h : cd_27.lookup pc = some x) : jcode 27 pc = some x := h
theorem hh27 : jhh 27 = [] := rfl
theorem js27 : unt 3 = jcls 27 := by decide +kernel
theorem c28 (pc : Nat) {x : JI} (h : cd_28.lookup pc = some x) : jcode 28 pc = some x := h
theorem hh28 : jhh 28 = [] := rfl
theorem js28 : unt 3 = jcls 28 := by decide +kernel
theorem c29 (pc : Nat) {x : JI} (h : cd_29.lookup pc = some x) : jcode 29 pc = some x := h
theorem hh29 : jhh 29 = [] := rfl
theorem js29 : unt 3 = jcls 29 := by decide +kernel
theorem c30 (pc : Nat) {x : JI} (h : cd_30.lookup pc = some x) : jcode 30 pc = some x := h
theorem hh30 : jhh 30 = [] := rfl
theorem js30 : unt 3 = jcls 30 := by decide +kernel
theorem c31 (pc : Nat) {x : JI} (h : cd_31.lookup pc = some x) : jcode 31 pc = some x := h
theorem hh31 : jhh 31 = [] := rfl
theorem js31 : unt 6 = jcls 31 := by decide +kernel
theorem c32 (pc : Nat) {x : JI} (h : cd_32.lookup pc = some x) : jcode 32 pc = some x := h
theorem hh32 : jhh 32 = [] := rfl
theorem js32 : unt 6 = jcls 32 := by decide +kernel
theorem c33 (pc : Nat) {x : JI} (h : cd_33.lookup pc = some x) : jcode 33 pc = some x := h
theorem hh33 : jhh 33 = [] := rfl
theorem js33 : unt 6 = jcls 33 := by decide +kernel
theorem c34 (pc : Nat) {x : JI} (h : cd_34.lookup pc = some x) : jcode 34 pc = some x := h
theorem hh34 : jhh 34 = [] := rfl
theorem js34 : unt 6 = jcls 34 := by decide +kernel
theorem c35 (pc : Nat) {x : JI} (h : cd_35.lookup pc = some x) : jcode 35 pc = some x := h
theorem hh35 : jhh 35 = [] := rfl
theorem js35 : unt 3 = jcls 35 := by decide +kernel
theorem c36 (pc : Nat) {x : JI} (h : cd_36.lookup pc = some x) : jcode 36 pc = some x := h
theorem hh36 : jhh 36 = [] := rfl
theorem js36 : unt 3 = jcls 36 := by decide +kernel
theorem c37 (pc : Nat) {x : JI} (h : cd_37.lookup pc = some x) : jcode 37 pc = some x := h
theorem hh37 : jhh 37 = [] := rfl
theorem js37 : unt 6 = jcls 37 := by decide +kernel
theorem c38 (pc : Nat) {x : JI} (h : cd_38.lookup pc = some x) : jcode 38 pc = some x := h
theorem hh38 : jhh 38 = [] := rfl
theorem js38 : unt 3 = jcls 38 := by decide +kernel
theorem c39 (pc : Nat) {x : JI} (h : cd_39.lookup pc = some x) : jcode 39 pc = some x := h
theorem hh39 : jhh 39 = [] := rfl
theorem js39 : unt 7 = jcls 39 := by decide +kernel
theorem c40 (pc : Nat) {x : JI} (h : cd_40.lookup pc = some x) : jcode 40 pc = some x := h
theorem hh40 : jhh 40 = [] := rfl
theorem js40 : unt 3 = jcls 40 := by decide +kernel
theorem c41 (pc : Nat) {x : JI} (h : cd_41.lookup pc = some x) : jcode 41 pc = some x := h
theorem hh41 : jhh 41 = [] := rfl
theorem js41 : unt 8 = jcls 41 := by decide +kernel
theorem c42 (pc : Nat) {x : JI} (h : cd_42.lookup pc = some x) : jcode 42 pc = some x := h
theorem hh42 : jhh 42 = [] := rfl
theorem js42 : unt 3 = jcls 42 := by decide +kernel
theorem c43 (pc : Nat) {x : JI} (h : cd_43.lookup pc = some x) : jcode 43 pc = some x := h
theorem hh43 : jhh 43 = [] := rfl
theorem js43 : unt 3 = jcls 43 := by decide +kernel
theorem c44 (pc : Nat) {x : JI} (h : cd_44.lookup pc = some x) : jcode 44 pc = some x := h
theorem hh44 : jhh 44 = [] := rfl
theorem c45 (pc : Nat) {x : JI} (h : cd_45.lookup pc = some x) : jcode 45 pc = some x := h
theorem hh45 : jhh 45 = [] := rfl
theorem js45 : unt 8 = jcls 45 := by decide +kernel
theorem c46 (pc : Nat) {x : JI} (h : cd_46.lookup pc = some x) : jcode 46 pc = some x := h
theorem hh46 : jhh 46 = [] := rfl
theorem js46 : unt 8 = jcls 46 := by decide +kernel
theorem c47 (pc : Nat) {x : JI} (h : cd_47.lookup pc = some x) : jcode 47 pc = some x := h
theorem hh47 : jhh 47 = [] := rfl
theorem js47 : unt 3 = jcls 47 := by decide +kernel
theorem c48 (pc : Nat) {x : JI} (h : cd_48.lookup pc = some x) : jcode 48 pc = some x := h
theorem hh48 : jhh 48 = [] := rfl
theorem js48 : unt 6 = jcls 48 := by decide +kernel
theorem c49 (pc : Nat) {x : JI} (h : cd_49.lookup pc = some x) : jcode 49 pc = some x := h
theorem hh49 : jhh 49 = [] := rfl
theorem c50 (pc : Nat) {x : JI} (h : cd_50.lookup pc = some x) : jcode 50 pc = some x := h
theorem hh50 : jhh 50 = [] := rfl
theorem js50 : unt 8 = jcls 50 := by decide +kernel
theorem c51 (pc : Nat) {x : JI} (h : cd_51.lookup pc = some x) : jcode 51 pc = some x := h
theorem hh51 : jhh 51 = [] := rfl
theorem c52 (pc : Nat) {x : JI} (h : cd_52.lookup pc = some x) : jcode 52 pc = some x := h
theorem hh52 : jhh 52 = [] := rfl
theorem js52 : unt 3 = jcls 52 := by decide +kernel
theorem c53 (pc : Nat) {x : JI} (h : cd_53.lookup pc = some x) : jcode 53 pc = some x := h
theorem hh53 : jhh 53 = [] := rfl
theorem js53 : unt 3 = jcls 53 := by decide +kernel
theorem c54 (pc : Nat) {x : JI} (h : cd_54.lookup pc = some x) : jcode 54 pc = some x := h
theorem hh54 : jhh 54 = [] := rfl
theorem js54 : unt 7 = jcls 54 := by decide +kernel
theorem c55 (pc : Nat) {x : JI} (h : cd_55.lookup pc = some x) : jcode 55 pc = some x := h
theorem hh55 : jhh 55 = [] := rfl
theorem js55 : unt 3 = jcls 55 := by decide +kernel
theorem c56 (pc : Nat) {x : JI} (h : cd_56.lookup pc = some x) : jcode 56 pc = some x := h
theorem hh56 : jhh 56 = [] := rfl
theorem js56 : unt 7 = jcls 56 := by decide +kernel
theorem c57 (pc : Nat) {x : JI} (h : cd_57.lookup pc = some x) : jcode 57 pc = some x := h
theorem hh57 : jhh 57 = [] := rfl
theorem js57 : unt 8 = jcls 57 := by decide +kernel
theorem c58 (pc : Nat) {x : JI} (h : cd_58.lookup pc = some x) : jcode 58 pc = some x := h
theorem hh58 : jhh 58 = [] := rfl
theorem js58 : unt 3 = jcls 58 := by decide +kernel
theorem c59 (pc : Nat) {x : JI} (h : cd_59.lookup pc = some x) : jcode 59 pc = some x := h
theorem hh59 : jhh 59 = [] := rfl
theorem js59 : unt 5 = jcls 59 := by decide +kernel
theorem c60 (pc : Nat) {x : JI} (h : cd_60.lookup pc = some x) : jcode 60 pc = some x := h
theorem hh60 : jhh 60 = [] := rfl
theorem js60 : unt 5 = jcls 60 := by decide +kernel
theorem c61 (pc : Nat) {x : JI} (h : cd_61.lookup pc = some x) : jcode 61 pc = some x := h
theorem hh61 : jhh 61 = [] := rfl
theorem js61 : unt 3 = jcls 61 := by decide +kernel
theorem c62 (pc : Nat) {x : JI} (h : cd_62.lookup pc = some x) : jcode 62 pc = some x := h
theorem hh62 : jhh 62 = [] := rfl
theorem js62 : unt 4 = jcls 62 := by decide +kernel
theorem c63 (pc : Nat) {x : JI} (h : cd_63.lookup pc = some x) : jcode 63 pc = some x := h
theorem hh63 : jhh 63 = [] := rfl
theorem js63 : unt 4 = jcls 63 := by decide +kernel
theorem c64 (pc : Nat) {x : JI} (h : cd_64.lookup pc = some x) : jcode 64 pc = some x := h
theorem hh64 : jhh 64 = [] := rfl
theorem js64 : unt 4 = jcls 64 := by decide +kernel
theorem c65 (pc : Nat) {x : JI} (h : cd_65.lookup pc = some x) : jcode 65 pc = some x := h
theorem hh65 : jhh 65 = [] := rfl
theorem js65 : unt 4 = jcls 65 := by decide +kernel
theorem c66 (pc : Nat) {x : JI} (h : cd_66.lookup pc = some x) : jcode 66 pc = some x := h
theorem hh66 : jhh 66 = [] := rfl
theorem c67 (pc : Nat) {x : JI} (h : cd_67.lookup pc = some x) : jcode 67 pc = some x := h
theorem hh67 : jhh 67 = [] := rfl
theorem js67 : unt 8 = jcls 67 := by decide +kernel
theorem c68 (pc : Nat) {x : JI} (h : cd_68.lookup pc = some x) : jcode 68 pc = some x := h
theorem hh68 : jhh 68 = [] := rfl
theorem js68 : unt 8 = jcls 68 := by decide +kernel
theorem c69 (pc : Nat) {x : JI} (h : cd_69.lookup pc = some x) : jcode 69 pc = some x := h
theorem hh69 : jhh 69 = [] := rfl
theorem js69 : unt 4 = jcls 69 := by decide +kernel
theorem c70 (pc : Nat) {x : JI} (h : cd_70.lookup pc = some x) : jcode 70 pc = some x := h
theorem hh70 : jhh 70 = [] := rfl
theorem js70 : unt 4 = jcls 70 := by decide +kernel
theorem c71 (pc : Nat) {x : JI} (h : cd_71.lookup pc = some x) : jcode 71 pc = some x := h
theorem hh71 : jhh 71 = [] := rfl
theorem js71 : unt 8 = jcls 71 := by decide +kernel
theorem c72 (pc : Nat) {x : JI} (h : cd_72.lookup pc = some x) : jcode 72 pc = some x := h
theorem hh72 : jhh 72 = [] := rfl
theorem c73 (pc : Nat) {x : JI} (h : cd_73.lookup pc = some x) : jcode 73 pc = some x := h
theorem hh73 : jhh 73 = [] := rfl
theorem js73 : unt 6 = jcls 73 := by decide +kernel
theorem c74 (pc : Nat) {x : JI} (h : cd_74.lookup pc = some x) : jcode 74 pc = some x := h
theorem hh74 : jhh 74 = [] := rfl
theorem js74 : unt 10 = jcls 74 := by decide +kernel
theorem c75 (pc : Nat) {x : JI} (h : cd_75.lookup pc = some x) : jcode 75 pc = some x := h
theorem hh75 : jhh 75 = [] := rfl
theorem js75 : unt 7 = jcls 75 := by decide +kernel
theorem c76 (pc : Nat) {x : JI} (h : cd_76.lookup pc = some x) : jcode 76 pc = some x := h
theorem hh76 : jhh 76 = [] := rfl
theorem js76 : unt 5 = jcls 76 := by decide +kernel
theorem c77 (pc : Nat) {x : JI} (h : cd_77.lookup pc = some x) : jcode 77 pc = some x := h
theorem hh77 : jhh 77 = [] := rfl
theorem js77 : unt 10 = jcls 77 := by decide +kernel
theorem c78 (pc : Nat) {x : JI} (h : cd_78.lookup pc = some x) : jcode 78 pc = some x := h
theorem hh78 : jhh 78 = [] := rfl
theorem js78 : unt 10 = jcls 78 := by decide +kernel
theorem c79 (pc : Nat) {x : JI} (h : cd_79.lookup pc = some x) : jcode 79 pc = some x := h
theorem hh79 : jhh 79 = [] := rfl
theorem js79 : unt 10 = jcls 79 := by decide +kernel
theorem c80 (pc : Nat) {x : JI} (h : cd_80.lookup pc = some x) : jcode 80 pc = some x := h
theorem hh80 : jhh 80 = [] := rfl
theorem js80 : unt 10 = jcls 80 := by decide +kernel
theorem c81 (pc : Nat) {x : JI} (h : cd_81.lookup pc = some x) : jcode 81 pc = some x := h
theorem hh81 : jhh 81 = [] := rfl
theorem js81 : unt 10 = jcls 81 := by decide +kernel
theorem c82 (pc : Nat) {x : JI} (h : cd_82.lookup pc = some x) : jcode 82 pc = some x := h
theorem hh82 : jhh 82 = [] := rfl
theorem js82 : unt 10 = jcls 82 := by decide +kernel
theorem c83 (pc : Nat) {x : JI} (h : cd_83.lookup pc = some x) : jcode 83 pc = some x := h
theorem hh83 : jhh 83 = [] := rfl
theorem js83 : unt 10 = jcls 83 := by decide +kernel
theorem c84 (pc : Nat) {x : JI} (h : cd_84.lookup pc = some x) : jcode 84 pc = some x := h
theorem hh84 : jhh 84 = [] := rfl
theorem js84 : unt 10 = jcls 84 := by decide +kernel
theorem c85 (pc : Nat) {x : JI} (h : cd_85.lookup pc = some x) : jcode 85 pc = some x := h
theorem hh85 : jhh 85 = [] := rfl
theorem js85 : unt 10 = jcls 85 := by decide +kernel
theorem c86 (pc : Nat) {x : JI} (h : cd_86.lookup pc = some x) : jcode 86 pc = some x := h
theorem hh86 : jhh 86 = [] := rfl
theorem js86 : unt 10 = jcls 86 := by decide +kernel
theorem c87 (pc : Nat) {x : JI} (h : cd_87.lookup pc = some x) : jcode 87 pc = some x := h
theorem hh87 : jhh 87 = [] := rfl
theorem js87 : unt 10 = jcls 87 := by decide +kernel
theorem c88 (pc : Nat) {x : JI} (h : cd_88.lookup pc = some x) : jcode 88 pc = some x := h
theorem hh88 : jhh 88 = [] := rfl
theorem js88 : unt 10 = jcls 88 := by decide +kernel
theorem c89 (pc : Nat) {x : JI} (h : cd_89.lookup pc = some x) : jcode 89 pc = some x := h
theorem hh89 : jhh 89 = [] := rfl
theorem js89 : unt 4 = jcls 89 := by decide +kernel
theorem c90 (pc : Nat) {x : JI} (h : cd_90.lookup pc = some x) : jcode 90 pc = some x := h
theorem hh90 : jhh 90 = [] := rfl
theorem js90 : unt 10 = jcls 90 := by decide +kernel
theorem c91 (pc : Nat) {x : JI} (h : cd_91.lookup pc = some x) : jcode 91 pc = some x := h
theorem hh91 : jhh 91 = [] := rfl
theorem js91 : unt 10 = jcls 91 := by decide +kernel
theorem c92 (pc : Nat) {x : JI} (h : cd_92.lookup pc = some x) : jcode 92 pc = some x := h
theorem hh92 : jhh 92 = [] := rfl
theorem js92 : unt 10 = jcls 92 := by decide +kernel
theorem c93 (pc : Nat) {x : JI} (h : cd_93.lookup pc = some x) : jcode 93 pc = some x := h
theorem hh93 : jhh 93 = [] := rfl
theorem js93 : unt 10 = jcls 93 := by decide +kernel
theorem c94 (pc : Nat) {x : JI} (h : cd_94.lookup pc = some x) : jcode 94 pc = some x := h
theorem hh94 : jhh 94 = [] := rfl
theorem js94 : unt 4 = jcls 94 := by decide +kernel
theorem c95 (pc : Nat) {x : JI} (h : cd_95.lookup pc = some x) : jcode 95 pc = some x := h
theorem hh95 : jhh 95 = [] := rfl
theorem js95 : unt 10 = jcls 95 := by decide +kernel
theorem c96 (pc : Nat) {x : JI} (h : cd_96.lookup pc = some x) : jcode 96 pc = some x := h
theorem hh96 : jhh 96 = [] := rfl
theorem js96 : unt 10 = jcls 96 := by decide +kernel
theorem c97 (pc : Nat) {x : JI} (h : cd_97.lookup pc = some x) : jcode 97 pc = some x := h
theorem hh97 : jhh 97 = [] := rfl
theorem js97 : unt 10 = jcls 97 := by decide +kernel
theorem c98 (pc : Nat) {x : JI} (h : cd_98.lookup pc = some x) : jcode 98 pc = some x := h
theorem hh98 : jhh 98 = [] := rfl
theorem js98 : unt 2 = jcls 98 := by decide +kernel
theorem c99 (pc : Nat) {x : JI} (h : cd_99.lookup pc = some x) : jcode 99 pc = some x := h
theorem hh99 : jhh 99 = [] := rfl
theorem js99 : unt 2 = jcls 99 := by decide +kernel
theorem c100 (pc : Nat) {x : JI} (h : cd_100.lookup pc = some x) : jcode 100 pc = some x := h
theorem hh100 : jhh 100 = [] := rfl
theorem js100 : unt 2 = jcls 100 := by decide +kernel
theorem c101 (pc : Nat) {x : JI} (h : cd_101.lookup pc = some x) : jcode 101 pc = some x := h
theorem hh101 : jhh 101 = [] := rfl
theorem js101 : unt 9 = jcls 101 := by decide +kernel
theorem c102 (pc : Nat) {x : JI} (h : cd_102.lookup pc = some x) : jcode 102 pc = some x := h
theorem hh102 : jhh 102 = [] := rfl
theorem js102 : unt 9 = jcls 102 := by decide +kernel
theorem c103 (pc : Nat) {x : JI} (h : cd_103.lookup pc = some x) : jcode 103 pc = some x := h
theorem hh103 : jhh 103 = [] := rfl
theorem js103 : unt 9 = jcls 103 := by decide +kernel
theorem c104 (pc : Nat) {x : JI} (h : cd_104.lookup pc = some x) : jcode 104 pc = some x := h
theorem hh104 : jhh 104 = [] := rfl
theorem js104 : unt 9 = jcls 104 := by decide +kernel
theorem c105 (pc : Nat) {x : JI} (h : cd_105.lookup pc = some x) : jcode 105 pc = some x := h
theorem hh105 : jhh 105 = [] := rfl
theorem js105 : unt 9 = jcls 105 := by decide +kernel
theorem c106 (pc : Nat) {x : JI} (h : cd_106.lookup pc = some x) : jcode 106 pc = some x := h
theorem hh106 : jhh 106 = [] := rfl
theorem js106 : unt 9 = jcls 106 := by decide +kernel
theorem c107 (pc : Nat) {x : JI} (h : cd_107.lookup pc = some x) : jcode 107 pc = some x := h
theorem hh107 : jhh 107 = [] := rfl
theorem js107 : unt 9 = jcls 107 := by decide +kernel
theorem c108 (pc : Nat) {x : JI} (h : cd_108.lookup pc = some x) : jcode 108 pc = some x := h
theorem hh108 : jhh 108 = [] := rfl
theorem js108 : unt 9 = jcls 108 := by decide +kernel
theorem c109 (pc : Nat) {x : JI} (h : cd_109.lookup pc = some x) : jcode 109 pc = some x := h
theorem hh109 : jhh 109 = [] := rfl
theorem js109 : unt 9 = jcls 109 := by decide +kernel
theorem c110 (pc : Nat) {x : JI} (h : cd_110.lookup pc = some x) : jcode 110 pc = some x := h
theorem hh110 : jhh 110 = [] := rfl
theorem js110 : unt 9 = jcls 110 := by decide +kernel
theorem c111 (pc : Nat) {x : JI} (h : cd_111.lookup pc = some x) : jcode 111 pc = some x := h
theorem hh111 : jhh 111 = [] := rfl
theorem js111 : unt 9 = jcls 111 := by decide +kernel
theorem c112 (pc : Nat) {x : JI} (h : cd_112.lookup pc = some x) : jcode 112 pc = some x := h
theorem hh112 : jhh 112 = [] := rfl
theorem js112 : unt 9 = jcls 112 := by decide +kernel
theorem c113 (pc : Nat) {x : JI} (h : cd_113.lookup pc = some x) : jcode 113 pc = some x := h
theorem hh113 : jhh 113 = [] := rfl
theorem js113 : unt 9 = jcls 113 := by decide +kernel
theorem c114 (pc : Nat) {x : JI} (h : cd_114.lookup pc = some x) : jcode 114 pc = some x := h
theorem hh114 : jhh 114 = [] := rfl
theorem js114 : unt 9 = jcls 114 := by decide +kernel
theorem c115 (pc : Nat) {x : JI} (h : cd_115.lookup pc = some x) : jcode 115 pc = some x := h
theorem hh115 : jhh 115 = [] := rfl
theorem js115 : unt 9 = jcls 115 := by decide +kernel
theorem c116 (pc : Nat) {x : JI} (h : cd_116.lookup pc = some x) : jcode 116 pc = some x := h
theorem hh116 : jhh 116 = [] := rfl
theorem js116 : unt 9 = jcls 116 := by decide +kernel
theorem c117 (pc : Nat) {x : JI} (h : cd_117.lookup pc = some x) : jcode 117 pc = some x := h
theorem hh117 : jhh 117 = [] := rfl
theorem js117 : unt 2 = jcls 117 := by decide +kernel
theorem c118 (pc : Nat) {x : JI} (h : cd_118.lookup pc = some x) : jcode 118 pc = some x := h
theorem hh118 : jhh 118 = [] := rfl
theorem js118 : unt 2 = jcls 118 := by decide +kernel
theorem c119 (pc : Nat) {x : JI} (h : cd_119.lookup pc = some x) : jcode 119 pc = some x := h
theorem hh119 : jhh 119 = [] := rfl
theorem js119 : unt 9 = jcls 119 := by decide +kernel
theorem c120 (pc : Nat) {x : JI} (h : cd_120.lookup pc = some x) : jcode 120 pc = some x := h
theorem hh120 : jhh 120 = [] := rfl
theorem js120 : unt 9 = jcls 120 := by decide +kernel
theorem c121 (pc : Nat) {x : JI} (h : cd_121.lookup pc = some x) : jcode 121 pc = some x := h
theorem hh121 : jhh 121 = [] := rfl
theorem js121 : unt 2 = jcls 121 := by decide +kernel
theorem c122 (pc : Nat) {x : JI} (h : cd_122.lookup pc = some x) : jcode 122 pc = some x := h
theorem hh122 : jhh 122 = [] := rfl
theorem c123 (pc : Nat) {x : JI} (h : cd_123.lookup pc = some x) : jcode 123 pc = some x := h
theorem hh123 : jhh 123 = [] := rfl
theorem js123 : unt 8 = jcls 123 := by decide +kernel
theorem c124 (pc : Nat) {x : JI} (h : cd_124.lookup pc = some x) : jcode 124 pc = some x := h
theorem hh124 : jhh 124 = [] := rfl
theorem js124 : unt 2 = jcls 124 := by decide +kernel
theorem c125 (pc : Nat) {x : JI} (h : cd_125.lookup pc = some x) : jcode 125 pc = some x := h
theorem hh125 : jhh 125 = [] := rfl
theorem js125 : unt 10 = jcls 125 := by decide +kernel
theorem c126 (pc : Nat) {x : JI} (h : cd_126.lookup pc = some x) : jcode 126 pc = some x := h
theorem hh126 : jhh 126 = [] := rfl
theorem js126 : unt 2 = jcls 126 := by decide +kernel
theorem c127 (pc : Nat) {x : JI} (h : cd_127.lookup pc = some x) : jcode 127 pc = some x := h
theorem hh127 : jhh 127 = [] := rfl
theorem js127 : unt 4 = jcls 127 := by decide +kernel
theorem c128 (pc : Nat) {x : JI} (h : cd_128.lookup pc = some x) : jcode 128 pc = some x := h
theorem hh128 : jhh 128 = [] := rfl
theorem js128 : unt 8 = jcls 128 := by decide +kernel
theorem c129 (pc : Nat) {x : JI} (h : cd_129.lookup pc = some x) : jcode 129 pc = some x := h
theorem hh129 : jhh 129 = [] := rfl
theorem js129 : unt 10 = jcls 129 := by decide +kernel
theorem c130 (pc : Nat) {x : JI} (h : cd_130.lookup pc = some x) : jcode 130 pc = some x := h
theorem hh130 : jhh 130 = [] := rfl
theorem js130 : unt 10 = jcls 130 := by decide +kernel
theorem c131 (pc : Nat) {x : JI} (h : cd_131.lookup pc = some x) : jcode 131 pc = some x := h
theorem hh131 : jhh 131 = [] := rfl
theorem js131 : unt 10 = jcls 131 := by decide +kernel
theorem c132 (pc : Nat) {x : JI} (h : cd_132.lookup pc = some x) : jcode 132 pc = some x := h
theorem hh132 : jhh 132 = [] := rfl
theorem js132 : unt 0 = jcls 132 := by decide +kernel
theorem c133 (pc : Nat) {x : JI} (h : cd_133.lookup pc = some x) : jcode 133 pc = some x := h
theorem hh133 : jhh 133 = [] := rfl
theorem js133 : unt 0 = jcls 133 := by decide +kernel
theorem c134 (pc : Nat) {x : JI} (h : cd_134.lookup pc = some x) : jcode 134 pc = some x := h
theorem hh134 : jhh 134 = [] := rfl
theorem js134 : unt 10 = jcls 134 := by decide +kernel
theorem c135 (pc : Nat) {x : JI} (h : cd_135.lookup pc = some x) : jcode 135 pc = some x := h
theorem hh135 : jhh 135 = [] := rfl
theorem js135 : unt 10 = jcls 135 := by decide +kernel
theorem c136 (pc : Nat) {x : JI} (h : cd_136.lookup pc = some x) : jcode 136 pc = some x := h
theorem hh136 : jhh 136 = [] := rfl
theorem js136 : unt 10 = jcls 136 := by decide +kernel
theorem c137 (pc : Nat) {x : JI} (h : cd_137.lookup pc = some x) : jcode 137 pc = some x := h
theorem hh137 : jhh 137 = [] := rfl
theorem js137 : unt 10 = jcls 137 := by decide +kernel
theorem c138 (pc : Nat) {x : JI} (h : cd_138.lookup pc = some x) : jcode 138 pc = some x := h
theorem hh138 : jhh 138 = [] := rfl
theorem js138 : unt 10 = jcls 138 := by decide +kernel
theorem c139 (pc : Nat) {x : JI} (h : cd_139.lookup pc = some x) : jcode 139 pc = some x := h
theorem hh139 : jhh 139 = [] := rfl
theorem js139 : unt 5 = jcls 139 := by decide +kernel
theorem c140 (pc : Nat) {x : JI} (h : cd_140.lookup pc = some x) : jcode 140 pc = some x := h
theorem hh140 : jhh 140 = [] := rfl
theorem js140 : unt 10 = jcls 140 := by decide +kernel
theorem c141 (pc : Nat) {x : JI} (h : cd_141.lookup pc = some x) : jcode 141 pc = some x := h
theorem hh141 : jhh 141 = [] := rfl
theorem js141 : unt 7 = jcls 141 := by decide +kernel
theorem c142 (pc : Nat) {x : JI} (h : cd_142.lookup pc = some x) : jcode 142 pc = some x := h
theorem hh142 : jhh 142 = [] := rfl
theorem js142 : unt 10 = jcls 142 := by decide +kernel
theorem c143 (pc : Nat) {x : JI} (h : cd_143.lookup pc = some x) : jcode 143 pc = some x := h
theorem hh143 : jhh 143 = [] := rfl
theorem js143 : unt 0 = jcls 143 := by decide +kernel
theorem c144 (pc : Nat) {x : JI} (h : cd_144.lookup pc = some x) : jcode 144 pc = some x := h
theorem hh144 : jhh 144 = [] := rfl
theorem js144 : unt 10 = jcls 144 := by decide +kernel
theorem c145 (pc : Nat) {x : JI} (h : cd_145.lookup pc = some x) : jcode 145 pc = some x := h
theorem hh145 : jhh 145 = [] := rfl
theorem js145 : unt 10 = jcls 145 := by decide +kernel
theorem c146 (pc : Nat) {x : JI} (h : cd_146.lookup pc = some x) : jcode 146 pc = some x := h
theorem hh146 : jhh 146 = [] := rfl
theorem js146 : unt 10 = jcls 146 := by decide +kernel
theorem c147 (pc : Nat) {x : JI} (h : cd_147.lookup pc = some x) : jcode 147 pc = some x := h
theorem hh147 : jhh 147 = [] := rfl
theorem c148 (pc : Nat) {x : JI} (h : cd_148.lookup pc = some x) : jcode 148 pc = some x := h
theorem hh148 : jhh 148 = [] := rfl
theorem c149 (pc : Nat) {x : JI} (h : cd_149.lookup pc = some x) : jcode 149 pc = some x := h
theorem hh149 : jhh 149 = [] := rfl
theorem js149 : unt 12 = jcls 149 := by decide +kernel
theorem c150 (pc : Nat) {x : JI} (h : cd_150.lookup pc = some x) : jcode 150 pc = some x := h
theorem hh150 : jhh 150 = [] := rfl
theorem js150 : unt 13 = jcls 150 := by decide +kernel
theorem c151 (pc : Nat) {x : JI} (h : cd_151.lookup pc = some x) : jcode 151 pc = some x := h
theorem hh151 : jhh 151 = [] := rfl
theorem c152 (pc : Nat) {x : JI} (h : cd_152.lookup pc = some x) : jcode 152 pc = some x := h
theorem hh152 : jhh 152 = [] := rfl
theorem c153 (pc : Nat) {x : JI} (h : cd_153.lookup pc = some x) : jcode 153 pc = some x := h
theorem hh153 : jhh 153 = [] := rfl
theorem c154 (pc : Nat) {x : JI} (h : cd_154.lookup pc = some x) : jcode 154 pc = some x := h
theorem hh154 : jhh 154 = [] := rfl
theorem c155 (pc : Nat) {x : JI} (h : cd_155.lookup pc = some x) : jcode 155 pc = some x := h
theorem hh155 : jhh 155 = [] := rfl
theorem c156 (pc : Nat) {x : JI} (h : cd_156.lookup pc = some x) : jcode 156 pc = some x := h
theorem hh156 : jhh 156 = [] := rfl
theorem c157 (pc : Nat) {x : JI} (h : cd_157.lookup pc = some x) : jcode 157 pc = some x := h
theorem hh157 : jhh 157 = [] := rfl
theorem c158 (pc : Nat) {x : JI} (h : cd_158.lookup pc = some x) : jcode 158 pc = some x := h
theorem hh158 : jhh 158 = [] := rfl
theorem js158 : unt 11 = jcls 158 := by decide +kernel
theorem c159 (pc : Nat) {x : JI} (h : cd_159.lookup pc = some x) : jcode 159 pc = some x := h
theorem hh159 : jhh 159 = [] := rfl
theorem c160 (pc : Nat) {x : JI} (h : cd_160.lookup pc = some x) : jcode 160 pc = some x := h
theorem hh160 : jhh 160 = [] := rfl
theorem c161 (pc : Nat) {x : JI} (h : cd_161.lookup pc = some x) : jcode 161 pc = some x := h
theorem hh161 : jhh 161 = [] := rfl
theorem c162 (pc : Nat) {x : JI} (h : cd_162.lookup pc = some x) : jcode 162 pc = some x := h
theorem hh162 : jhh 162 = [] := rfl
theorem c163 (pc : Nat) {x : JI} (h : cd_163.lookup pc = some x) : jcode 163 pc = some x := h
theorem hh163 : jhh 163 = [] := rfl
theorem c164 (pc : Nat) {x : JI} (h : cd_164.lookup pc = some x) : jcode 164 pc = some x := h
theorem hh164 : jhh 164 = [] := rfl
theorem c165 (pc : Nat) {x : JI} (h : cd_165.lookup pc = some x) : jcode 165 pc = some x := h
theorem hh165 : jhh 165 = [] := rfl
theorem c166 (pc : Nat) {x : JI} (h : cd_166.lookup pc = some x) : jcode 166 pc = some x := h
theorem hh166 : jhh 166 = [] := rfl
theorem c167 (pc : Nat) {x : JI} (h : cd_167.lookup pc = some x) : jcode 167 pc = some x := h
theorem hh167 : jhh 167 = [] := rfl
theorem c168 (pc : Nat) {x : JI} (h : cd_168.lookup pc = some x) : jcode 168 pc = some x := h
theorem hh168 : jhh 168 = [] := rfl
theorem c169 (pc : Nat) {x : JI} (h : cd_169.lookup pc = some x) : jcode 169 pc = some x := h
theorem hh169 : jhh 169 = [] := rfl
theorem js169 : unt 13 = jcls 169 := by decide +kernel
theorem c170 (pc : Nat) {x : JI} (h : cd_170.lookup pc = some x) : jcode 170 pc = some x := h
theorem hh170 : jhh 170 = [] := rfl
theorem js170 : unt 13 = jcls 170 := by decide +kernel
theorem c171 (pc : Nat) {x : JI} (h : cd_171.lookup pc = some x) : jcode 171 pc = some x := h
theorem hh171 : jhh 171 = [] := rfl
theorem js171 : unt 13 = jcls 171 := by decide +kernel
theorem c172 (pc : Nat) {x : JI} (h : cd_172.lookup pc = some x) : jcode 172 pc = some x := h
theorem hh172 : jhh 172 = [] := rfl
theorem js172 : unt 13 = jcls 172 := by decide +kernel
theorem c173 (pc : Nat) {x : JI} (h : cd_173.lookup pc = some x) : jcode 173 pc = some x := h
theorem hh173 : jhh 173 = [] := rfl
theorem c174 (pc : Nat) {x : JI} (h : cd_174.lookup pc = some x) : jcode 174 pc = some x := h
theorem hh174 : jhh 174 = [] := rfl
theorem c175 (pc : Nat) {x : JI} (h : cd_175.lookup pc = some x) : jcode 175 pc = some x := h
theorem hh175 : jhh 175 = [] := rfl
theorem js175 : unt 14 = jcls 175 := by decide +kernel
theorem c176 (pc : Nat) {x : JI} (h : cd_176.lookup pc = some x) : jcode 176 pc = some x := h
theorem hh176 : jhh 176 = [] := rfl
theorem c177 (pc : Nat) {x : JI} (h : cd_177.lookup pc = some x) : jcode 177 pc = some x := h
theorem hh177 : jhh 177 = [] := rfl
theorem js177 : unt 14 = jcls 177 := by decide +kernel
theorem c178 (pc : Nat) {x : JI} (h : cd_178.lookup pc = some x) : jcode 178 pc = some x := h
theorem hh178 : jhh 178 = [] := rfl
theorem js178 : unt 14 = jcls 178 := by decide +kernel
theorem c179 (pc : Nat) {x : JI} (h : cd_179.lookup pc = some x) : jcode 179 pc = some x := h
theorem hh179 : jhh 179 = [] := rfl
theorem c180 (pc : Nat) {x : JI} (h : cd_180.lookup pc = some x) : jcode 180 pc = some x := h
theorem hh180 : jhh 180 = [] := rfl
theorem c181 (pc : Nat) {x : JI} (h : cd_181.lookup pc = some x) : jcode 181 pc = some x := h
theorem hh181 : jhh 181 = [] := rfl
theorem c182 (pc : Nat) {x : JI} (h : cd_182.lookup pc = some x) : jcode 182 pc = some x := h
theorem hh182 : jhh 182 = [] := rfl
theorem c183 (pc : Nat) {x : JI} (h : cd_183.lookup pc = some x) : jcode 183 pc = some x := h
theorem hh183 : jhh 183 = [] := rfl
theorem c184 (pc : Nat) {x : JI} (h : cd_184.lookup pc = some x) : jcode 184 pc = some x := h
theorem hh184 : jhh 184 = [] := rfl
theorem c185 (pc : Nat) {x : JI} (h : cd_185.lookup pc = some x) : jcode 185 pc = some x := h
theorem hh185 : jhh 185 = [] := rfl
theorem c186 (pc : Nat) {x : JI} (h : cd_186.lookup pc = some x) : jcode 186 pc = some x := h
theorem hh186 : jhh 186 = [] := rfl
theorem js186 : unt 15 = jcls 186 := by decide +kernel
theorem c187 (pc : Nat) {x : JI} (h : cd_187.lookup pc = some x) : jcode 187 pc = some x := h
theorem hh187 : jhh 187 = [] := rfl
theorem js187 : unt 13 = jcls 187 := by decide +kernel
theorem c188 (pc : Nat) {x : JI} (h : cd_188.lookup pc = some x) : jcode 188 pc = some x := h
theorem hh188 : jhh 188 = [] := rfl
theorem js188 : unt 13 = jcls 188 := by decide +kernel
theorem c189 (pc : Nat) {x : JI} (h : cd_189.lookup pc = some x) : jcode 189 pc = some x := h
theorem hh189 : jhh 189 = [] := rfl
theorem c190 (pc : Nat) {x : JI} (h : cd_190.lookup pc = some x) : jcode 190 pc = some x := h
theorem hh190 : jhh 190 = [] := rfl
theorem js190 : unt 13 = jcls 190 := by decide +kernel
theorem c191 (pc : Nat) {x : JI} (h : cd_191.lookup pc = some x) : jcode 191 pc = some x := h
theorem hh191 : jhh 191 = [] := rfl
theorem c192 (pc : Nat) {x : JI} (h : cd_192.lookup pc = some x) : jcode 192 pc = some x := h
theorem hh192 : jhh 192 = [] := rfl
theorem c193 (pc : Nat) {x : JI} (h : cd_193.lookup pc = some x) : jcode 193 pc = some x := h
theorem hh193 : jhh 193 = [] := rfl
theorem c194 (pc : Nat) {x : JI} (h : cd_194.lookup pc = some x) : jcode 194 pc = some x := h
theorem hh194 : jhh 194 = [] := rfl
theorem c195 (pc : Nat) {x : JI} (h : cd_195.lookup pc = some x) : jcode 195 pc = some x := h
theorem hh195 : jhh 195 = [] := rfl
theorem c196 (pc : Nat) {x : JI} (h : cd_196.lookup pc = some x) : jcode 196 pc = some x := h
theorem hh196 : jhh 196 = [] := rfl
theorem js196 : unt 14 = jcls 196 := by decide +kernel
theorem c197 (pc : Nat) {x : JI} (h : cd_197.lookup pc = some x) : jcode 197 pc = some x := h
theorem hh197 : jhh 197 = [] := rfl
theorem c198 (pc : Nat) {x : JI} (h : cd_198.lookup pc = some x) : jcode 198 pc = some x := h
theorem hh198 : jhh 198 = [] := rfl
theorem c199 (pc : Nat) {x : JI} (h : cd_199.lookup pc = some x) : jcode 199 pc = some x := h
theorem hh199 : jhh 199 = [] := rfl
theorem js199 : unt 12 = jcls 199 := by decide +kernel
theorem c200 (pc : Nat) {x : JI} (h : cd_200.lookup pc = some x) : jcode 200 pc = some x := h
theorem hh200 : jhh 200 = [] := rfl
theorem js200 : unt 12 = jcls 200 := by decide +kernel
theorem c201 (pc : Nat) {x : JI} (h : cd_201.lookup pc = some x) : jcode 201 pc = some x := h
theorem hh201 : jhh 201 = [] := rfl
theorem js201 : unt 12 = jcls 201 := by decide +kernel
theorem c202 (pc : Nat) {x : JI} (h : cd_202.lookup pc = some x) : jcode 202 pc = some x := h
theorem hh202 : jhh 202 = [] := rfl
theorem js202 : unt 12 = jcls 202 := by decide +kernel
theorem c203 (pc : Nat) {x : JI} (h : cd_203.lookup pc = some x) : jcode 203 pc = some x := h
theorem hh203 : jhh 203 = [] := rfl
theorem js203 : unt 12 = jcls 203 := by decide +kernel
theorem c204 (pc : Nat) {x : JI} (h : cd_204.lookup pc = some x) : jcode 204 pc = some x := h
theorem hh204 : jhh 204 = [] := rfl
theorem c205 (pc : Nat) {x : JI} (h : cd_205.lookup pc = some x) : jcode 205 pc = some x := h
theorem hh205 : jhh 205 = [] := rfl
theorem c206 (pc : Nat) {x : JI} (h : cd_206.lookup pc = some x) : jcode 206 pc = some x := h
theorem hh206 : jhh 206 = [] := rfl
theorem c207 (pc : Nat) {x : JI} (h : cd_207.lookup pc = some x) : jcode 207 pc = some x := h
theorem hh207 : jhh 207 = [] := rfl
theorem c208 (pc : Nat) {x : JI} (h : cd_208.lookup pc = some x) : jcode 208 pc = some x := h
theorem hh208 : jhh 208 = [] := rfl
theorem c209 (pc : Nat) {x : JI} (h : cd_209.lookup pc = some x) : jcode 209 pc = some x := h
theorem hh209 : jhh 209 = [] := rfl
theorem c210 (pc : Nat) {x : JI} (h : cd_210.lookup pc = some x) : jcode 210 pc = some x := h
theorem hh210 : jhh 210 = [] := rfl
theorem c211 (pc : Nat) {x : JI} (h : cd_211.lookup pc = some x) : jcode 211 pc = some x := h
theorem hh211 : jhh 211 = [] := rfl
theorem c212 (pc : Nat) {x : JI} (h : cd_212.lookup pc = some x) : jcode 212 pc = some x := h
theorem hh212 : jhh 212 = [] := rfl
theorem js212 : unt 12 = jcls 212 := by decide +kernel
theorem c213 (pc : Nat) {x : JI} (h : cd_213.lookup pc = some x) : jcode 213 pc = some x := h
theorem hh213 : jhh 213 = [] := rfl
theorem js213 : unt 12 = jcls 213 := by decide +kernel
theorem c214 (pc : Nat) {x : JI} (h : cd_214.lookup pc = some x) : jcode 214 pc = some x := h
theorem hh214 : jhh 214 = [] := rfl
theorem c215 (pc : Nat) {x : JI} (h : cd_215.lookup pc = some x) : jcode 215 pc = some x := h
theorem hh215 : jhh 215 = [] := rfl
theorem c216 (pc : Nat) {x : JI} (h : cd_216.lookup pc = some x) : jcode 216 pc = some x := h
theorem hh216 : jhh 216 = [] := rfl
theorem c217 (pc : Nat) {x : JI} (h : cd_217.lookup pc = some x) : jcode 217 pc = some x := h
theorem hh217 : jhh 217 = [] := rfl
theorem c218 (pc : Nat) {x : JI} (h : cd_218.lookup pc = some x) : jcode 218 pc = some x := h
theorem hh218 : jhh 218 = [] := rfl
theorem c219 (pc : Nat) {x : JI} (h : cd_219.lookup pc = some x) : jcode 219 pc = some x := h
theorem hh219 : jhh 219 = [] := rfl
theorem c220 (pc : Nat) {x : JI} (h : cd_220.lookup pc = some x) : jcode 220 pc = some x := h
theorem hh220 : jhh 220 = [] := rfl
theorem c221 (pc : Nat) {x : JI} (h : cd_221.lookup pc = some x) : jcode 221 pc = some x := h
theorem hh221 : jhh 221 = [] := rfl
theorem c222 (pc : Nat) {x : JI} (h : cd_222.lookup pc = some x) : jcode 222 pc = some x := h
theorem hh222 : jhh 222 = [] := rfl
theorem c223 (pc : Nat) {x : JI} (h : cd_223.lookup pc = some x) : jcode 223 pc = some x := h
theorem hh223 : jhh 223 = [] := rfl
theorem c224 (pc : Nat) {x : JI} (h : cd_224.lookup pc = some x) : jcode 224 pc = some x := h
theorem hh224 : jhh 224 = [] := rfl
theorem c225 (pc : Nat) {x : JI} (h : cd_225.lookup pc = some x) : jcode 225 pc = some x := h
theorem hh225 : jhh 225 = [] := rfl
theorem js225 : unt 12 = jcls 225 := by decide +kernel
theorem c226 (pc : Nat) {x : JI} (h : cd_226.lookup pc = some x) : jcode 226 pc = some x := h
theorem hh226 : jhh 226 = [] := rfl
theorem c227 (pc : Nat) {x : JI} (h : cd_227.lookup pc = some x) : jcode 227 pc = some x := h
theorem hh227 : jhh 227 = [] := rfl
theorem c228 (pc : Nat) {x : JI} (h : cd_228.lookup pc = some x) : jcode 228 pc = some x := h
theorem hh228 : jhh 228 = [] := rfl
theorem c229 (pc : Nat) {x : JI} (h : cd_229.lookup pc = some x) : jcode 229 pc = some x := h
theorem hh229 : jhh 229 = [] := rfl
theorem c230 (pc : Nat) {x : JI} (h : cd_230.lookup pc = some x) : jcode 230 pc = some x := h
theorem hh230 : jhh 230 = [] := rfl
theorem c231 (pc : Nat) {x : JI} (h : cd_231.lookup pc = some x) : jcode 231 pc = some x := h
theorem hh231 : jhh 231 = [] := rfl
theorem js231 : unt 12 = jcls 231 := by decide +kernel
theorem c232 (pc : Nat) {x : JI} (h : cd_232.lookup pc = some x) : jcode 232 pc = some x := h
theorem hh232 : jhh 232 = [] := rfl
theorem c233 (pc : Nat) {x : JI} (h : cd_233.lookup pc = some x) : jcode 233 pc = some x := h
theorem hh233 : jhh 233 = [] := rfl
theorem c234 (pc : Nat) {x : JI} (h : cd_234.lookup pc = some x) : jcode 234 pc = some x := h
theorem hh234 : jhh 234 = [] := rfl
theorem c235 (pc : Nat) {x : JI} (h : cd_235.lookup pc = some x) : jcode 235 pc = some x := h
theorem hh235 : jhh 235 = [] := rfl
theorem c236 (pc : Nat) {x : JI} (h : cd_236.lookup pc = some x) : jcode 236 pc = some x := h
theorem hh236 : jhh 236 = [] := rfl
theorem c237 (pc : Nat) {x : JI} (h : cd_237.lookup pc = some x) : jcode 237 pc = some x := h
theorem hh237 : jhh 237 = [] := rfl
theorem c238 (pc : Nat) {x : JI} (h : cd_238.lookup pc = some x) : jcode 238 pc = some x := h
theorem hh238 : jhh 238 = [] := rfl
theorem c239 (pc : Nat) {x : JI} (h : cd_239.lookup pc = some x) : jcode 239 pc = some x := h
theorem hh239 : jhh 239 = [] := rfl
theorem c240 (pc : Nat) {x : JI} (h : cd_240.lookup pc = some x) : jcode 240 pc = some x := h
theorem hh240 : jhh 240 = [] := rfl
theorem c241 (pc : Nat) {x : JI} (h : cd_241.lookup pc = some x) : jcode 241 pc = some x := h
theorem hh241 : jhh 241 = [] := rfl
theorem c242 (pc : Nat) {x : JI} (h : cd_242.lookup pc = some x) : jcode 242 pc = some x := h
theorem hh242 : jhh 242 = [] := rfl
theorem js242 : unt 13 = jcls 242 := by decide +kernel
theorem c243 (pc : Nat) {x : JI} (h : cd_243.lookup pc = some x) : jcode 243 pc = some x := h
theorem hh243 : jhh 243 = [] := rfl
theorem js243 : unt 14 = jcls 243 := by decide +kernel
theorem c244 (pc : Nat) {x : JI} (h : cd_244.lookup pc = some x) : jcode 244 pc = some x := h
theorem hh244 : jhh 244 = [] := rfl
theorem js244 : unt 15 = jcls 244 := by decide +kernel
theorem c245 (pc : Nat) {x : JI} (h : cd_245.lookup pc = some x) : jcode 245 pc = some x := h
theorem hh245 : jhh 245 = [] := rfl
theorem js245 : unt 15 = jcls 245 := by decide +kernel
theorem c246 (pc : Nat) {x : JI} (h : cd_246.lookup pc = some x) : jcode 246 pc = some x := h
theorem hh246 : jhh 246 = [] := rfl
theorem c247 (pc : Nat) {x : JI} (h : cd_247.lookup pc = some x) : jcode 247 pc = some x := h
theorem hh247 : jhh 247 = [] := rfl
theorem js247 : unt 14 = jcls 247 := by decide +kernel
theorem c248 (pc : Nat) {x : JI} (h : cd_248.lookup pc = some x) : jcode 248 pc = some x := h
theorem hh248 : jhh 248 = [] := rfl
theorem c249 (pc : Nat) {x : JI} (h : cd_249.lookup pc = some x) : jcode 249 pc = some x := h
theorem hh249 : jhh 249 = [] := rfl
theorem c250 (pc : Nat) {x : JI} (h : cd_250.lookup pc = some x) : jcode 250 pc = some x := h
theorem hh250 : jhh 250 = [] := rfl
theorem c251 (pc : Nat) {x : JI} (h : cd_251.lookup pc = some x) : jcode 251 pc = some x := h
theorem hh251 : jhh 251 = [] := rfl
theorem c252 (pc : Nat) {x : JI} (h : cd_252.lookup pc = some x) : jcode 252 pc = some x := h
theorem hh252 : jhh 252 = [] := rfl
theorem c253 (pc : Nat) {x : JI} (h : cd_253.lookup pc = some x) : jcode 253 pc = some x := h
theorem hh253 : jhh 253 = [] := rfl
theorem c254 (pc : Nat) {x : JI} (h : cd_254.lookup pc = some x) : jcode 254 pc = some x := h
theorem hh254 : jhh 254 = [] := rfl
theorem c255 (pc : Nat) {x : JI} (h : cd_255.lookup pc = some x) : jcode 255 pc = some x := h
theorem hh255 : jhh 255 = [] := rfl
theorem js255 : unt 10 = jcls 255 := by decide +kernel
theorem c256 (pc : Nat) {x : JI} (h : cd_256.lookup pc = some x) : jcode 256 pc = some x := h
theorem hh256 : jhh 256 = [] := rfl
theorem js256 : unt 3 = jcls 256 := by decide +kernel
theorem c257 (pc : Nat) {x : JI} (h : cd_257.lookup pc = some x) : jcode 257 pc = some x := h
theorem hh257 : jhh 257 = [] := rfl
theorem c258 (pc : Nat) {x : JI} (h : cd_258.lookup pc = some x) : jcode 258 pc = some x := h
theorem hh258 : jhh 258 = [] := rfl
theorem c259 (pc : Nat) {x : JI} (h : cd_259.lookup pc = some x) : jcode 259 pc = some x := h
theorem hh259 : jhh 259 = [] := rfl
theorem js259 : unt 10 = jcls 259 := by decide +kernel
theorem c260 (pc : Nat) {x : JI} (h : cd_260.lookup pc = some x) : jcode 260 pc = some x := h
theorem hh260 : jhh 260 = [] := rfl
theorem js260 : unt 9 = jcls 260 := by decide +kernel
theorem c261 (pc : Nat) {x : JI} (h : cd_261.lookup pc = some x) : jcode 261 pc = some x := h
theorem hh261 : jhh 261 = [] := rfl
theorem js261 : unt 10 = jcls 261 := by decide +kernel
theorem c262 (pc : Nat) {x : JI} (h : cd_262.lookup pc = some x) : jcode 262 pc = some x := h
theorem hh262 : jhh 262 = [] := rfl
theorem js262 : unt 10 = jcls 262 := by decide +kernel
theorem c263 (pc : Nat) {x : JI} (h : cd_263.lookup pc = some x) : jcode 263 pc = some x := h
theorem hh263 : jhh 263 = [] := rfl
theorem c264 (pc : Nat) {x : JI} (h : cd_264.lookup pc = some x) : jcode 264 pc = some x := h
theorem hh264 : jhh 264 = [] := rfl
theorem js264 : unt 10 = jcls 264 := by decide +kernel
theorem c265 (pc : Nat) {x : JI} (h : cd_265.lookup pc = some x) : jcode 265 pc = some x := h
theorem hh265 : jhh 265 = [] := rfl
theorem c266 (pc : Nat) {x : JI} (h : cd_266.lookup pc = some x) : jcode 266 pc = some x := h
theorem hh266 : jhh 266 = [] := rfl
theorem js266 : unt 10 = jcls 266 := by decide +kernel
theorem c267 (pc : Nat) {x : JI} (h : cd_267.lookup pc = some x) : jcode 267 pc = some x := h
theorem hh267 : jhh 267 = [] := rfl
theorem js267 : unt 10 = jcls 267 := by decide +kernel
theorem c268 (pc : Nat) {x : JI} (h : cd_268.lookup pc = some x) : jcode 268 pc = some x := h
theorem hh268 : jhh 268 = [] := rfl
theorem js268 : unt 1 = jcls 268 := by decide +kernel
theorem c269 (pc : Nat) {x : JI} (h : cd_269.lookup pc = some x) : jcode 269 pc = some x := h
theorem hh269 : jhh 269 = [] := rfl
theorem js269 : unt 1 = jcls 269 := by decide +kernel
theorem c270 (pc : Nat) {x : JI} (h : cd_270.lookup pc = some x) : jcode 270 pc = some x := h
theorem hh270 : jhh 270 = [] := rfl
theorem js270 : unt 1 = jcls 270 := by decide +kernel
theorem c271 (pc : Nat) {x : JI} (h : cd_271.lookup pc = some x) : jcode 271 pc = some x := h
theorem hh271 : jhh 271 = [] := rfl
theorem js271 : unt 1 = jcls 271 := by decide +kernel
theorem c272 (pc : Nat) {x : JI} (h : cd_272.lookup pc = some x) : jcode 272 pc = some x := h
theorem hh272 : jhh 272 = [] := rfl
theorem js272 : unt 10 = jcls 272 := by decide +kernel
theorem c273 (pc : Nat) {x : JI} (h : cd_273.lookup pc = some x) : jcode 273 pc = some x := h
theorem hh273 : jhh 273 = [] := rfl
theorem js273 : unt 1 = jcls 273 := by decide +kernel
theorem c274 (pc : Nat) {x : JI} (h : cd_274.lookup pc = some x) : jcode 274 pc = some x := h
theorem hh274 : jhh 274 = [] := rfl
