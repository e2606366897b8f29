def SH : List am_C := [(8, 16, [-1, -1, 1, 2, 27, 44, 47, 51, 54, 56, 58, 60, 66, 69, 75, 84]), (11, 1296, []), (14, 8, [3, 6, 9, 12, 15, 18, 21, 24]), (6, 2, [4, 5]), (11, 24, []), (11, 6, []), (6, 2, [7, 8]), (11, 24, []), (11, 6, []), (6, 2, [10, 11]), (11, 24, []), (11, 6, []), (6, 2, [13, 14]), (11, 24, []), (11, 6, []), (6, 2, [16, 17]), (11, 24, []), (11, 6, []), (6, 2, [19, 20]), (11, 24, []), (11, 6, []), (6, 2, [22, 23]), (11, 24, []), (11, 6, []), (6, 2, [25, 26]), (11, 24, []), (11, 6, []), (15, 4, [28, 32, 36, 40]), (4, 3, [29, 30, 31]), (11, 24, []), (11, 24, []), (11, 6, []), (4, 3, [33, 34, 35]), (11, 24, []), (11, 24, []), (11, 6, []), (4, 3, [37, 38, 39]), (11, 24, []), (11, 24, []), (11, 6, []), (4, 3, [41, 42, 43]), (11, 24, []), (11, 24, []), (11, 6, []), (6, 2, [45, 46]), (11, 24, []), (11, 6, []), (4, 3, [48, 49, 50]), (11, 24, []), (11, 24, []), (11, 6, []), (6, 2, [52, 53]), (11, 24, []), (11, 6, []), (5, 2, [55, -1]), (11, 50, []), (5, 2, [57, -1]), (11, 50, []), (5, 2, [59, -1]), (11, 50, []), (3, 4, [61, 62, 63, -1]), (11, 36, []), (11, 36, []), (6, 2, [64, 65]), (11, 24, []), (11, 6, []), (2, 8, [67, 68, -1, -1, -1, -1, -1, -1]), (11, 1296, []), (11, 1296, []), (1, 6, [70, 71, 72, 73, 74, -1]), (11, 36, []), (11, 36, []), (11, 72, []), (11, 72, []), (11, 72, []), (0, 11, [76, 77, -1, 78, 79, 80, 82, -1, -1, -1, -1]), (11, 216, []), (11, 216, []), (11, 216, []), (11, 1080, []), (5, 2, [81, -1]), (11, 74, []), (5, 2, [83, -1]), (11, 74, []), (7, 2, [85, -1]), (13, 126, []), (9, 36, [-1, -1, 87, 88, 89, 90, 91, 92, 93, 94, 95, 96, 97, 98, 99, -1, -1, -1, -1, 100, 101, 102, 103, 104, 105, 106, 107, -1, -1, 108, 109, -1, 110, -1, 111, 112]), (11, 192, []), (12, 48, []), (11, 40, []), (11, 40, []), (12, 40, []), (11, 96, []), (11, 96, []), (11, 24, []), (11, 1296, []), (11, 1296, []), (11, 1296, []), (12, 1296, []), (12, 1296, []), (12, 14400, []), (12, 14400, []), (11, 95040, []), (11, 216, []), (12, 216, []), (12, 216, []), (11, 450, []), (11, 450, []), (13, 126, []), (11, 64, []), (11, 64, []), (11, 64, []), (11, 1296, [])]
abbrev KS : am_K := (SH, 0, 0)
theorem kd0 : am_kd KS 0 = some (8, 16, [-1, -1, 1, 2, 27, 44, 47, 51, 54, 56, 58, 60, 66, 69, 75, 84]) := rfl
theorem kd1 : am_kd KS 1 = some (11, 1296, []) := rfl
theorem kd2 : am_kd KS 2 = some (14, 8, [3, 6, 9, 12, 15, 18, 21, 24]) := rfl
theorem kd3 : am_kd KS 3 = some (6, 2, [4, 5]) := rfl
theorem kd4 : am_kd KS 4 = some (11, 24, []) := rfl
theorem kd5 : am_kd KS 5 = some (11, 6, []) := rfl
theorem kd6 : am_kd KS 6 = some (6, 2, [7, 8]) := rfl
theorem kd7 : am_kd KS 7 = some (11, 24, []) := rfl
theorem kd8 : am_kd KS 8 = some (11, 6, []) := rfl
theorem kd9 : am_kd KS 9 = some (6, 2, [10, 11]) := rfl
theorem kd10 : am_kd KS 10 = some (11, 24, []) := rfl
theorem kd11 : am_kd KS 11 = some (11, 6, []) := rfl
theorem kd12 : am_kd KS 12 = some (6, 2, [13, 14]) := rfl
theorem kd13 : am_kd KS 13 = some (11, 24, []) := rfl
theorem kd14 : am_kd KS 14 = some (11, 6, []) := rfl
theorem kd15 : am_kd KS 15 = some (6, 2, [16, 17]) := rfl
theorem kd16 : am_kd KS 16 = some (11, 24, []) := rfl
theorem kd17 : am_kd KS 17 = some (11, 6, []) := rfl
theorem kd18 : am_kd KS 18 = some (6, 2, [19, 20]) := rfl
theorem kd19 : am_kd KS 19 = some (11, 24, []) := rfl
theorem kd20 : am_kd KS 20 = some (11, 6, []) := rfl
theorem kd21 : am_kd KS 21 = some (6, 2, [22, 23]) := rfl
theorem kd22 : am_kd KS 22 = some (11, 24, []) := rfl
theorem kd23 : am_kd KS 23 = some (11, 6, []) := rfl
theorem kd24 : am_kd KS 24 = some (6, 2, [25, 26]) := rfl
theorem kd25 : am_kd KS 25 = some (11, 24, []) := rfl
theorem kd26 : am_kd KS 26 = some (11, 6, []) := rfl
theorem kd27 : am_kd KS 27 = some (15, 4, [28, 32, 36, 40]) := rfl
theorem kd28 : am_kd KS 28 = some (4, 3, [29, 30, 31]) := rfl
theorem kd29 : am_kd KS 29 = some (11, 24, []) := rfl
theorem kd30 : am_kd KS 30 = some (11, 24, []) := rfl
theorem kd31 : am_kd KS 31 = some (11, 6, []) := rfl
theorem kd32 : am_kd KS 32 = some (4, 3, [33, 34, 35]) := rfl
theorem kd33 : am_kd KS 33 = some (11, 24, []) := rfl
theorem kd34 : am_kd KS 34 = some (11, 24, []) := rfl
theorem kd35 : am_kd KS 35 = some (11, 6, []) := rfl
theorem kd36 : am_kd KS 36 = some (4, 3, [37, 38, 39]) := rfl
theorem kd37 : am_kd KS 37 = some (11, 24, []) := rfl
theorem kd38 : am_kd KS 38 = some (11, 24, []) := rfl
theorem kd39 : am_kd KS 39 = some (11, 6, []) := rfl
theorem kd40 : am_kd KS 40 = some (4, 3, [41, 42, 43]) := rfl
theorem kd41 : am_kd KS 41 = some (11, 24, []) := rfl
theorem kd42 : am_kd KS 42 = some (11, 24, []) := rfl
theorem kd43 : am_kd KS 43 = some (11, 6, []) := rfl
theorem kd44 : am_kd KS 44 = some (6, 2, [45, 46]) := rfl
theorem kd45 : am_kd KS 45 = some (11, 24, []) := rfl
theorem kd46 : am_kd KS 46 = some (11, 6, []) := rfl
theorem kd47 : am_kd KS 47 = some (4, 3, [48, 49, 50]) := rfl
theorem kd48 : am_kd KS 48 = some (11, 24, []) := rfl
theorem kd49 : am_kd KS 49 = some (11, 24, []) := rfl
theorem kd50 : am_kd KS 50 = some (11, 6, []) := rfl
theorem kd51 : am_kd KS 51 = some (6, 2, [52, 53]) := rfl
theorem kd52 : am_kd KS 52 = some (11, 24, []) := rfl
theorem kd53 : am_kd KS 53 = some (11, 6, []) := rfl
theorem kd54 : am_kd KS 54 = some (5, 2, [55, -1]) := rfl
theorem kd55 : am_kd KS 55 = some (11, 50, []) := rfl
theorem kd56 : am_kd KS 56 = some (5, 2, [57, -1]) := rfl
theorem kd57 : am_kd KS 57 = some (11, 50, []) := rfl
theorem kd58 : am_kd KS 58 = some (5, 2, [59, -1]) := rfl
theorem kd59 : am_kd KS 59 = some (11, 50, []) := rfl
theorem kd60 : am_kd KS 60 = some (3, 4, [61, 62, 63, -1]) := rfl
theorem kd61 : am_kd KS 61 = some (11, 36, []) := rfl
theorem kd62 : am_kd KS 62 = some (11, 36, []) := rfl
theorem kd63 : am_kd KS 63 = some (6, 2, [64, 65]) := rfl
theorem kd64 : am_kd KS 64 = some (11, 24, []) := rfl
theorem kd65 : am_kd KS 65 = some (11, 6, []) := rfl
theorem kd66 : am_kd KS 66 = some (2, 8, [67, 68, -1, -1, -1, -1, -1, -1]) := rfl
theorem kd67 : am_kd KS 67 = some (11, 1296, []) := rfl
theorem kd68 : am_kd KS 68 = some (11, 1296, []) := rfl
theorem kd69 : am_kd KS 69 = some (1, 6, [70, 71, 72, 73, 74, -1]) := rfl
theorem kd70 : am_kd KS 70 = some (11, 36, []) := rfl
theorem kd71 : am_kd KS 71 = some (11, 36, []) := rfl
theorem kd72 : am_kd KS 72 = some (11, 72, []) := rfl
theorem kd73 : am_kd KS 73 = some (11, 72, []) := rfl
theorem kd74 : am_kd KS 74 = some (11, 72, []) := rfl
theorem kd75 : am_kd KS 75 = some (0, 11, [76, 77, -1, 78, 79, 80, 82, -1, -1, -1, -1]) := rfl
theorem kd76 : am_kd KS 76 = some (11, 216, []) := rfl
theorem kd77 : am_kd KS 77 = some (11, 216, []) := rfl
theorem kd78 : am_kd KS 78 = some (11, 216, []) := rfl
theorem kd79 : am_kd KS 79 = some (11, 1080, []) := rfl
theorem kd80 : am_kd KS 80 = some (5, 2, [81, -1]) := rfl
theorem kd81 : am_kd KS 81 = some (11, 74, []) := rfl
theorem kd82 : am_kd KS 82 = some (5, 2, [83, -1]) := rfl
theorem kd83 : am_kd KS 83 = some (11, 74, []) := rfl
theorem kd84 : am_kd KS 84 = some (7, 2, [85, -1]) := rfl
theorem kd85 : am_kd KS 85 = some (13, 126, []) := rfl
theorem kd86 : am_kd KS 86 = some (9, 36, [-1, -1, 87, 88, 89, 90, 91, 92, 93, 94, 95, 96, 97, 98, 99, -1, -1, -1, -1, 100, 101, 102, 103, 104, 105, 106, 107, -1, -1, 108, 109, -1, 110, -1, 111, 112]) := rfl
theorem kd87 : am_kd KS 87 = some (11, 192, []) := rfl
theorem kd88 : am_kd KS 88 = some (12, 48, []) := rfl
theorem kd89 : am_kd KS 89 = some (11, 40, []) := rfl
theorem kd90 : am_kd KS 90 = some (11, 40, []) := rfl
theorem kd91 : am_kd KS 91 = some (12, 40, []) := rfl
theorem kd92 : am_kd KS 92 = some (11, 96, []) := rfl
theorem kd93 : am_kd KS 93 = some (11, 96, []) := rfl
theorem kd94 : am_kd KS 94 = some (11, 24, []) := rfl
theorem kd95 : am_kd KS 95 = some (11, 1296, []) := rfl
theorem kd96 : am_kd KS 96 = some (11, 1296, []) := rfl
theorem kd97 : am_kd KS 97 = some (11, 1296, []) := rfl
theorem kd98 : am_kd KS 98 = some (12, 1296, []) := rfl
theorem kd99 : am_kd KS 99 = some (12, 1296, []) := rfl
theorem kd100 : am_kd KS 100 = some (12, 14400, []) := rfl
theorem kd101 : am_kd KS 101 = some (12, 14400, []) := rfl
theorem kd102 : am_kd KS 102 = some (11, 95040, []) := rfl
theorem kd103 : am_kd KS 103 = some (11, 216, []) := rfl
theorem kd104 : am_kd KS 104 = some (12, 216, []) := rfl
theorem kd105 : am_kd KS 105 = some (12, 216, []) := rfl
theorem kd106 : am_kd KS 106 = some (11, 450, []) := rfl
theorem kd107 : am_kd KS 107 = some (11, 450, []) := rfl
theorem kd108 : am_kd KS 108 = some (13, 126, []) := rfl
theorem kd109 : am_kd KS 109 = some (11, 64, []) := rfl
theorem kd110 : am_kd KS 110 = some (11, 64, []) := rfl
theorem kd111 : am_kd KS 111 = some (11, 64, []) := rfl
theorem kd112 : am_kd KS 112 = some (11, 1296, []) := rfl
