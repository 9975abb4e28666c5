theorem dL_law_3598 : decode cL_law 3598 = .ok (.iload 5, 2) := by decide +kernel
theorem dL_law_3600 : decode cL_law 3600 = .ok (.if_icmp .eq 5, 3) := by decide +kernel
theorem dL_law_3603 : decode cL_law 3603 = .ok (.iconst 0, 1) := by decide +kernel
theorem dL_law_3604 : decode cL_law 3604 = .ok (.ireturn, 1) := by decide +kernel
theorem dL_law_3605 : decode cL_law 3605 = .ok (.iload 5, 2) := by decide +kernel
theorem dL_law_3607 : decode cL_law 3607 = .ok (.ifCond .ne 15, 3) := by decide +kernel
theorem dL_law_3610 : decode cL_law 3610 = .ok (.aload_n 3, 1) := by decide +kernel
theorem dL_law_3611 : decode cL_law 3611 = .ok (.iconst 0, 1) := by decide +kernel
theorem dL_law_3612 : decode cL_law 3612 = .ok (.laload, 1) := by decide +kernel
theorem dL_law_3613 : decode cL_law 3613 = .ok (.iload 6, 2) := by decide +kernel
theorem dL_law_3615 : decode cL_law 3615 = .ok (.i2l, 1) := by decide +kernel
theorem dL_law_3616 : decode cL_law 3616 = .ok (.lcmp, 1) := by decide +kernel
theorem dL_law_3617 : decode cL_law 3617 = .ok (.ifCond .eq 5, 3) := by decide +kernel
theorem dL_law_3620 : decode cL_law 3620 = .ok (.iconst 0, 1) := by decide +kernel
theorem dL_law_3621 : decode cL_law 3621 = .ok (.ireturn, 1) := by decide +kernel
theorem dL_law_3622 : decode cL_law 3622 = .ok (.goto 1039, 3) := by decide +kernel
theorem dL_law_3625 : decode cL_law 3625 = .ok (.aload_n 1, 1) := by decide +kernel
theorem dL_law_3626 : decode cL_law 3626 = .ok (.aload_n 0, 1) := by decide +kernel
theorem dL_law_3627 : decode cL_law 3627 = .ok (.iload 4, 2) := by decide +kernel
theorem dL_law_3629 : decode cL_law 3629 = .ok (.iconst 1, 1) := by decide +kernel
theorem dL_law_3630 : decode cL_law 3630 = .ok (.iadd, 1) := by decide +kernel
theorem dL_law_3631 : decode cL_law 3631 = .ok (.iaload, 1) := by decide +kernel
theorem dL_law_3632 : decode cL_law 3632 = .ok (.aload_n 3, 1) := by decide +kernel
theorem dL_law_3633 : decode cL_law 3633 = .ok (.invokestatic 374, 3) := by decide +kernel
theorem dL_law_3636 : decode cL_law 3636 = .ok (.istore 5, 2) := by decide +kernel
theorem dL_law_3638 : decode cL_law 3638 = .ok (.aload_n 2, 1) := by decide +kernel
theorem dL_law_3639 : decode cL_law 3639 = .ok (.aload_n 0, 1) := by decide +kernel
theorem dL_law_3640 : decode cL_law 3640 = .ok (.iload 4, 2) := by decide +kernel
theorem dL_law_3642 : decode cL_law 3642 = .ok (.iconst 1, 1) := by decide +kernel
theorem dL_law_3643 : decode cL_law 3643 = .ok (.iadd, 1) := by decide +kernel
theorem dL_law_3644 : decode cL_law 3644 = .ok (.iaload, 1) := by decide +kernel
theorem dL_law_3645 : decode cL_law 3645 = .ok (.invokevirtual 376, 3) := by decide +kernel
theorem dL_law_3648 : decode cL_law 3648 = .ok (.istore 6, 2) := by decide +kernel
theorem dL_law_3650 : decode cL_law 3650 = .ok (.aload_n 2, 1) := by decide +kernel
theorem dL_law_3651 : decode cL_law 3651 = .ok (.invokevirtual 212, 3) := by decide +kernel
theorem dL_law_3654 : decode cL_law 3654 = .ok (.iload 5, 2) := by decide +kernel
theorem dL_law_3656 : decode cL_law 3656 = .ok (.if_icmp .eq 5, 3) := by decide +kernel
theorem dL_law_3659 : decode cL_law 3659 = .ok (.iconst 0, 1) := by decide +kernel
theorem dL_law_3660 : decode cL_law 3660 = .ok (.ireturn, 1) := by decide +kernel
theorem dL_law_3661 : decode cL_law 3661 = .ok (.iload 5, 2) := by decide +kernel
theorem dL_law_3663 : decode cL_law 3663 = .ok (.ifCond .ne 15, 3) := by decide +kernel
theorem dL_law_3666 : decode cL_law 3666 = .ok (.aload_n 3, 1) := by decide +kernel
theorem dL_law_3667 : decode cL_law 3667 = .ok (.iconst 0, 1) := by decide +kernel
theorem dL_law_3668 : decode cL_law 3668 = .ok (.laload, 1) := by decide +kernel
theorem dL_law_3669 : decode cL_law 3669 = .ok (.iload 6, 2) := by decide +kernel
theorem dL_law_3671 : decode cL_law 3671 = .ok (.i2l, 1) := by decide +kernel
theorem dL_law_3672 : decode cL_law 3672 = .ok (.lcmp, 1) := by decide +kernel
theorem dL_law_3673 : decode cL_law 3673 = .ok (.ifCond .eq 5, 3) := by decide +kernel
theorem dL_law_3676 : decode cL_law 3676 = .ok (.iconst 0, 1) := by decide +kernel
theorem dL_law_3677 : decode cL_law 3677 = .ok (.ireturn, 1) := by decide +kernel
theorem dL_law_3678 : decode cL_law 3678 = .ok (.goto 983, 3) := by decide +kernel
theorem dL_law_3681 : decode cL_law 3681 = .ok (.aload_n 1, 1) := by decide +kernel
theorem dL_law_3682 : decode cL_law 3682 = .ok (.aload_n 0, 1) := by decide +kernel
theorem dL_law_3683 : decode cL_law 3683 = .ok (.iload 4, 2) := by decide +kernel
theorem dL_law_3685 : decode cL_law 3685 = .ok (.iconst 1, 1) := by decide +kernel
theorem dL_law_3686 : decode cL_law 3686 = .ok (.iadd, 1) := by decide +kernel
theorem dL_law_3687 : decode cL_law 3687 = .ok (.iaload, 1) := by decide +kernel
theorem dL_law_3688 : decode cL_law 3688 = .ok (.aload_n 3, 1) := by decide +kernel
theorem dL_law_3689 : decode cL_law 3689 = .ok (.invokestatic 377, 3) := by decide +kernel
theorem dL_law_3692 : decode cL_law 3692 = .ok (.istore 5, 2) := by decide +kernel
theorem dL_law_3694 : decode cL_law 3694 = .ok (.aload_n 2, 1) := by decide +kernel
theorem dL_law_3695 : decode cL_law 3695 = .ok (.aload_n 0, 1) := by decide +kernel
theorem dL_law_3696 : decode cL_law 3696 = .ok (.iload 4, 2) := by decide +kernel
theorem dL_law_3698 : decode cL_law 3698 = .ok (.iconst 1, 1) := by decide +kernel
theorem dL_law_3699 : decode cL_law 3699 = .ok (.iadd, 1) := by decide +kernel
theorem dL_law_3700 : decode cL_law 3700 = .ok (.iaload, 1) := by decide +kernel
theorem dL_law_3701 : decode cL_law 3701 = .ok (.invokevirtual 379, 3) := by decide +kernel
theorem dL_law_3704 : decode cL_law 3704 = .ok (.istore 6, 2) := by decide +kernel
theorem dL_law_3706 : decode cL_law 3706 = .ok (.aload_n 2, 1) := by decide +kernel
theorem dL_law_3707 : decode cL_law 3707 = .ok (.invokevirtual 212, 3) := by decide +kernel
theorem dL_law_3710 : decode cL_law 3710 = .ok (.iload 5, 2) := by decide +kernel
theorem dL_law_3712 : decode cL_law 3712 = .ok (.if_icmp .eq 5, 3) := by decide +kernel
theorem dL_law_3715 : decode cL_law 3715 = .ok (.iconst 0, 1) := by decide +kernel
theorem dL_law_3716 : decode cL_law 3716 = .ok (.ireturn, 1) := by decide +kernel
theorem dL_law_3717 : decode cL_law 3717 = .ok (.iload 5, 2) := by decide +kernel
theorem dL_law_3719 : decode cL_law 3719 = .ok (.ifCond .ne 22, 3) := by decide +kernel
theorem dL_law_3722 : decode cL_law 3722 = .ok (.aload_n 3, 1) := by decide +kernel
theorem dL_law_3723 : decode cL_law 3723 = .ok (.iconst 0, 1) := by decide +kernel
theorem dL_law_3724 : decode cL_law 3724 = .ok (.laload, 1) := by decide +kernel
theorem dL_law_3725 : decode cL_law 3725 = .ok (.iload 6, 2) := by decide +kernel
theorem dL_law_3727 : decode cL_law 3727 = .ok (.ifCond .eq 7, 3) := by decide +kernel
theorem dL_law_3730 : decode cL_law 3730 = .ok (.lconst 1, 1) := by decide +kernel
theorem dL_law_3731 : decode cL_law 3731 = .ok (.goto 4, 3) := by decide +kernel
theorem dL_law_3734 : decode cL_law 3734 = .ok (.lconst 0, 1) := by decide +kernel
theorem dL_law_3735 : decode cL_law 3735 = .ok (.lcmp, 1) := by decide +kernel
theorem dL_law_3736 : decode cL_law 3736 = .ok (.ifCond .eq 5, 3) := by decide +kernel
theorem dL_law_3739 : decode cL_law 3739 = .ok (.iconst 0, 1) := by decide +kernel
theorem dL_law_3740 : decode cL_law 3740 = .ok (.ireturn, 1) := by decide +kernel
theorem dL_law_3741 : decode cL_law 3741 = .ok (.goto 920, 3) := by decide +kernel
theorem dL_law_3744 : decode cL_law 3744 = .ok (.aload_n 1, 1) := by decide +kernel
theorem dL_law_3745 : decode cL_law 3745 = .ok (.aload_n 0, 1) := by decide +kernel
theorem dL_law_3746 : decode cL_law 3746 = .ok (.iload 4, 2) := by decide +kernel
theorem dL_law_3748 : decode cL_law 3748 = .ok (.iconst 1, 1) := by decide +kernel
theorem dL_law_3749 : decode cL_law 3749 = .ok (.iadd, 1) := by decide +kernel
theorem dL_law_3750 : decode cL_law 3750 = .ok (.iaload, 1) := by decide +kernel
theorem dL_law_3751 : decode cL_law 3751 = .ok (.aload_n 3, 1) := by decide +kernel
theorem dL_law_3752 : decode cL_law 3752 = .ok (.invokestatic 380, 3) := by decide +kernel
theorem dL_law_3755 : decode cL_law 3755 = .ok (.istore 5, 2) := by decide +kernel
theorem dL_law_3757 : decode cL_law 3757 = .ok (.aload_n 2, 1) := by decide +kernel
theorem dL_law_3758 : decode cL_law 3758 = .ok (.aload_n 0, 1) := by decide +kernel
theorem dL_law_3759 : decode cL_law 3759 = .ok (.iload 4, 2) := by decide +kernel
theorem dL_law_3761 : decode cL_law 3761 = .ok (.iconst 1, 1) := by decide +kernel
theorem dL_law_3762 : decode cL_law 3762 = .ok (.iadd, 1) := by decide +kernel
theorem dL_law_3763 : decode cL_law 3763 = .ok (.iaload, 1) := by decide +kernel
theorem dL_law_3764 : decode cL_law 3764 = .ok (.invokevirtual 382, 3) := by decide +kernel
theorem dL_law_3767 : decode cL_law 3767 = .ok (.istore 6, 2) := by decide +kernel
theorem dL_law_3769 : decode cL_law 3769 = .ok (.aload_n 2, 1) := by decide +kernel
theorem dL_law_3770 : decode cL_law 3770 = .ok (.invokevirtual 212, 3) := by decide +kernel
theorem dL_law_3773 : decode cL_law 3773 = .ok (.iload 5, 2) := by decide +kernel
theorem dL_law_3775 : decode cL_law 3775 = .ok (.if_icmp .eq 5, 3) := by decide +kernel
theorem dL_law_3778 : decode cL_law 3778 = .ok (.iconst 0, 1) := by decide +kernel
theorem dL_law_3779 : decode cL_law 3779 = .ok (.ireturn, 1) := by decide +kernel
theorem dL_law_3780 : decode cL_law 3780 = .ok (.iload 5, 2) := by decide +kernel
theorem dL_law_3782 : decode cL_law 3782 = .ok (.ifCond .ne 22, 3) := by decide +kernel
theorem dL_law_3785 : decode cL_law 3785 = .ok (.aload_n 3, 1) := by decide +kernel
theorem dL_law_3786 : decode cL_law 3786 = .ok (.iconst 0, 1) := by decide +kernel
theorem dL_law_3787 : decode cL_law 3787 = .ok (.laload, 1) := by decide +kernel
theorem dL_law_3788 : decode cL_law 3788 = .ok (.iload 6, 2) := by decide +kernel
theorem dL_law_3790 : decode cL_law 3790 = .ok (.ifCond .eq 7, 3) := by decide +kernel
theorem dL_law_3793 : decode cL_law 3793 = .ok (.lconst 1, 1) := by decide +kernel
theorem dL_law_3794 : decode cL_law 3794 = .ok (.goto 4, 3) := by decide +kernel
theorem dL_law_3797 : decode cL_law 3797 = .ok (.lconst 0, 1) := by decide +kernel
theorem dL_law_3798 : decode cL_law 3798 = .ok (.lcmp, 1) := by decide +kernel
theorem dL_law_3799 : decode cL_law 3799 = .ok (.ifCond .eq 5, 3) := by decide +kernel
theorem dL_law_3802 : decode cL_law 3802 = .ok (.iconst 0, 1) := by decide +kernel
theorem dL_law_3803 : decode cL_law 3803 = .ok (.ireturn, 1) := by decide +kernel
theorem dL_law_3804 : decode cL_law 3804 = .ok (.goto 857, 3) := by decide +kernel
theorem dL_law_3807 : decode cL_law 3807 = .ok (.aload_n 1, 1) := by decide +kernel
theorem dL_law_3808 : decode cL_law 3808 = .ok (.aload_n 0, 1) := by decide +kernel
theorem dL_law_3809 : decode cL_law 3809 = .ok (.iload 4, 2) := by decide +kernel
theorem dL_law_3811 : decode cL_law 3811 = .ok (.iconst 1, 1) := by decide +kernel
theorem dL_law_3812 : decode cL_law 3812 = .ok (.iadd, 1) := by decide +kernel
theorem dL_law_3813 : decode cL_law 3813 = .ok (.iaload, 1) := by decide +kernel
theorem dL_law_3814 : decode cL_law 3814 = .ok (.aload_n 3, 1) := by decide +kernel
theorem dL_law_3815 : decode cL_law 3815 = .ok (.invokestatic 383, 3) := by decide +kernel
theorem dL_law_3818 : decode cL_law 3818 = .ok (.istore 5, 2) := by decide +kernel
theorem dL_law_3820 : decode cL_law 3820 = .ok (.aload_n 2, 1) := by decide +kernel
theorem dL_law_3821 : decode cL_law 3821 = .ok (.aload_n 0, 1) := by decide +kernel
theorem dL_law_3822 : decode cL_law 3822 = .ok (.iload 4, 2) := by decide +kernel
theorem dL_law_3824 : decode cL_law 3824 = .ok (.iconst 1, 1) := by decide +kernel
theorem dL_law_3825 : decode cL_law 3825 = .ok (.iadd, 1) := by decide +kernel
theorem dL_law_3826 : decode cL_law 3826 = .ok (.iaload, 1) := by decide +kernel
theorem dL_law_3827 : decode cL_law 3827 = .ok (.invokevirtual 385, 3) := by decide +kernel
theorem dL_law_3830 : decode cL_law 3830 = .ok (.istore 6, 2) := by decide +kernel
theorem dL_law_3832 : decode cL_law 3832 = .ok (.aload_n 2, 1) := by decide +kernel
theorem dL_law_3833 : decode cL_law 3833 = .ok (.invokevirtual 212, 3) := by decide +kernel
theorem dL_law_3836 : decode cL_law 3836 = .ok (.iload 5, 2) := by decide +kernel
theorem dL_law_3838 : decode cL_law 3838 = .ok (.if_icmp .eq 5, 3) := by decide +kernel
theorem dL_law_3841 : decode cL_law 3841 = .ok (.iconst 0, 1) := by decide +kernel
theorem dL_law_3842 : decode cL_law 3842 = .ok (.ireturn, 1) := by decide +kernel
theorem dL_law_3843 : decode cL_law 3843 = .ok (.iload 5, 2) := by decide +kernel
theorem dL_law_3845 : decode cL_law 3845 = .ok (.ifCond .ne 22, 3) := by decide +kernel
theorem dL_law_3848 : decode cL_law 3848 = .ok (.aload_n 3, 1) := by decide +kernel
theorem dL_law_3849 : decode cL_law 3849 = .ok (.iconst 0, 1) := by decide +kernel
theorem dL_law_3850 : decode cL_law 3850 = .ok (.laload, 1) := by decide +kernel
theorem dL_law_3851 : decode cL_law 3851 = .ok (.iload 6, 2) := by decide +kernel
theorem dL_law_3853 : decode cL_law 3853 = .ok (.ifCond .eq 7, 3) := by decide +kernel
theorem dL_law_3856 : decode cL_law 3856 = .ok (.lconst 1, 1) := by decide +kernel
theorem dL_law_3857 : decode cL_law 3857 = .ok (.goto 4, 3) := by decide +kernel
theorem dL_law_3860 : decode cL_law 3860 = .ok (.lconst 0, 1) := by decide +kernel
theorem dL_law_3861 : decode cL_law 3861 = .ok (.lcmp, 1) := by decide +kernel
theorem dL_law_3862 : decode cL_law 3862 = .ok (.ifCond .eq 5, 3) := by decide +kernel
theorem dL_law_3865 : decode cL_law 3865 = .ok (.iconst 0, 1) := by decide +kernel
theorem dL_law_3866 : decode cL_law 3866 = .ok (.ireturn, 1) := by decide +kernel
theorem dL_law_3867 : decode cL_law 3867 = .ok (.goto 794, 3) := by decide +kernel
theorem dL_law_3870 : decode cL_law 3870 = .ok (.aload_n 1, 1) := by decide +kernel
theorem dL_law_3871 : decode cL_law 3871 = .ok (.aload_n 0, 1) := by decide +kernel
theorem dL_law_3872 : decode cL_law 3872 = .ok (.iload 4, 2) := by decide +kernel
theorem dL_law_3874 : decode cL_law 3874 = .ok (.iconst 1, 1) := by decide +kernel
theorem dL_law_3875 : decode cL_law 3875 = .ok (.iadd, 1) := by decide +kernel
theorem dL_law_3876 : decode cL_law 3876 = .ok (.iaload, 1) := by decide +kernel
theorem dL_law_3877 : decode cL_law 3877 = .ok (.aload_n 3, 1) := by decide +kernel
theorem dL_law_3878 : decode cL_law 3878 = .ok (.invokestatic 386, 3) := by decide +kernel
theorem dL_law_3881 : decode cL_law 3881 = .ok (.istore 5, 2) := by decide +kernel
theorem dL_law_3883 : decode cL_law 3883 = .ok (.aload_n 2, 1) := by decide +kernel
theorem dL_law_3884 : decode cL_law 3884 = .ok (.aload_n 0, 1) := by decide +kernel
theorem dL_law_3885 : decode cL_law 3885 = .ok (.iload 4, 2) := by decide +kernel
theorem dL_law_3887 : decode cL_law 3887 = .ok (.iconst 1, 1) := by decide +kernel
theorem dL_law_3888 : decode cL_law 3888 = .ok (.iadd, 1) := by decide +kernel
theorem dL_law_3889 : decode cL_law 3889 = .ok (.iaload, 1) := by decide +kernel
theorem dL_law_3890 : decode cL_law 3890 = .ok (.invokevirtual 388, 3) := by decide +kernel
theorem dL_law_3893 : decode cL_law 3893 = .ok (.istore 6, 2) := by decide +kernel
theorem dL_law_3895 : decode cL_law 3895 = .ok (.aload_n 2, 1) := by decide +kernel
theorem dL_law_3896 : decode cL_law 3896 = .ok (.invokevirtual 212, 3) := by decide +kernel
theorem dL_law_3899 : decode cL_law 3899 = .ok (.iload 5, 2) := by decide +kernel
theorem dL_law_3901 : decode cL_law 3901 = .ok (.if_icmp .eq 5, 3) := by decide +kernel
theorem dL_law_3904 : decode cL_law 3904 = .ok (.iconst 0, 1) := by decide +kernel
theorem dL_law_3905 : decode cL_law 3905 = .ok (.ireturn, 1) := by decide +kernel
theorem dL_law_3906 : decode cL_law 3906 = .ok (.iload 5, 2) := by decide +kernel
theorem dL_law_3908 : decode cL_law 3908 = .ok (.ifCond .ne 22, 3) := by decide +kernel
theorem dL_law_3911 : decode cL_law 3911 = .ok (.aload_n 3, 1) := by decide +kernel
theorem dL_law_3912 : decode cL_law 3912 = .ok (.iconst 0, 1) := by decide +kernel
theorem dL_law_3913 : decode cL_law 3913 = .ok (.laload, 1) := by decide +kernel
theorem dL_law_3914 : decode cL_law 3914 = .ok (.iload 6, 2) := by decide +kernel
theorem dL_law_3916 : decode cL_law 3916 = .ok (.ifCond .eq 7, 3) := by decide +kernel
theorem dL_law_3919 : decode cL_law 3919 = .ok (.lconst 1, 1) := by decide +kernel
theorem dL_law_3920 : decode cL_law 3920 = .ok (.goto 4, 3) := by decide +kernel
theorem dL_law_3923 : decode cL_law 3923 = .ok (.lconst 0, 1) := by decide +kernel
theorem dL_law_3924 : decode cL_law 3924 = .ok (.lcmp, 1) := by decide +kernel
theorem dL_law_3925 : decode cL_law 3925 = .ok (.ifCond .eq 5, 3) := by decide +kernel
theorem dL_law_3928 : decode cL_law 3928 = .ok (.iconst 0, 1) := by decide +kernel
theorem dL_law_3929 : decode cL_law 3929 = .ok (.ireturn, 1) := by decide +kernel
theorem dL_law_3930 : decode cL_law 3930 = .ok (.goto 731, 3) := by decide +kernel
theorem dL_law_3933 : decode cL_law 3933 = .ok (.aload_n 1, 1) := by decide +kernel
theorem dL_law_3934 : decode cL_law 3934 = .ok (.aload_n 0, 1) := by decide +kernel
theorem dL_law_3935 : decode cL_law 3935 = .ok (.iload 4, 2) := by decide +kernel
theorem dL_law_3937 : decode cL_law 3937 = .ok (.iconst 1, 1) := by decide +kernel
theorem dL_law_3938 : decode cL_law 3938 = .ok (.iadd, 1) := by decide +kernel
theorem dL_law_3939 : decode cL_law 3939 = .ok (.iaload, 1) := by decide +kernel
theorem dL_law_3940 : decode cL_law 3940 = .ok (.aload_n 3, 1) := by decide +kernel
theorem dL_law_3941 : decode cL_law 3941 = .ok (.invokestatic 389, 3) := by decide +kernel
theorem dL_law_3944 : decode cL_law 3944 = .ok (.istore 5, 2) := by decide +kernel
theorem dL_law_3946 : decode cL_law 3946 = .ok (.aload_n 2, 1) := by decide +kernel
theorem dL_law_3947 : decode cL_law 3947 = .ok (.aload_n 0, 1) := by decide +kernel
theorem dL_law_3948 : decode cL_law 3948 = .ok (.iload 4, 2) := by decide +kernel
theorem dL_law_3950 : decode cL_law 3950 = .ok (.iconst 1, 1) := by decide +kernel
theorem dL_law_3951 : decode cL_law 3951 = .ok (.iadd, 1) := by decide +kernel
theorem dL_law_3952 : decode cL_law 3952 = .ok (.iaload, 1) := by decide +kernel
theorem dL_law_3953 : decode cL_law 3953 = .ok (.invokevirtual 391, 3) := by decide +kernel
theorem dL_law_3956 : decode cL_law 3956 = .ok (.istore 6, 2) := by decide +kernel
theorem dL_law_3958 : decode cL_law 3958 = .ok (.aload_n 2, 1) := by decide +kernel
theorem dL_law_3959 : decode cL_law 3959 = .ok (.invokevirtual 212, 3) := by decide +kernel
theorem dL_law_3962 : decode cL_law 3962 = .ok (.iload 5, 2) := by decide +kernel
theorem dL_law_3964 : decode cL_law 3964 = .ok (.if_icmp .eq 5, 3) := by decide +kernel
theorem dL_law_3967 : decode cL_law 3967 = .ok (.iconst 0, 1) := by decide +kernel
theorem dL_law_3968 : decode cL_law 3968 = .ok (.ireturn, 1) := by decide +kernel
theorem dL_law_3969 : decode cL_law 3969 = .ok (.iload 5, 2) := by decide +kernel
theorem dL_law_3971 : decode cL_law 3971 = .ok (.ifCond .ne 15, 3) := by decide +kernel
theorem dL_law_3974 : decode cL_law 3974 = .ok (.aload_n 3, 1) := by decide +kernel
theorem dL_law_3975 : decode cL_law 3975 = .ok (.iconst 0, 1) := by decide +kernel
theorem dL_law_3976 : decode cL_law 3976 = .ok (.laload, 1) := by decide +kernel
theorem dL_law_3977 : decode cL_law 3977 = .ok (.iload 6, 2) := by decide +kernel
theorem dL_law_3979 : decode cL_law 3979 = .ok (.i2l, 1) := by decide +kernel
theorem dL_law_3980 : decode cL_law 3980 = .ok (.lcmp, 1) := by decide +kernel
theorem dL_law_3981 : decode cL_law 3981 = .ok (.ifCond .eq 5, 3) := by decide +kernel
theorem dL_law_3984 : decode cL_law 3984 = .ok (.iconst 0, 1) := by decide +kernel
theorem dL_law_3985 : decode cL_law 3985 = .ok (.ireturn, 1) := by decide +kernel
theorem dL_law_3986 : decode cL_law 3986 = .ok (.goto 675, 3) := by decide +kernel
theorem dL_law_3989 : decode cL_law 3989 = .ok (.aload_n 1, 1) := by decide +kernel
theorem dL_law_3990 : decode cL_law 3990 = .ok (.invokevirtual 392, 3) := by decide +kernel
theorem dL_law_3993 : decode cL_law 3993 = .ok (.aload_n 2, 1) := by decide +kernel
theorem dL_law_3994 : decode cL_law 3994 = .ok (.invokevirtual 395, 3) := by decide +kernel
theorem dL_law_3997 : decode cL_law 3997 = .ok (.if_icmp .eq 664, 3) := by decide +kernel
theorem dL_law_4000 : decode cL_law 4000 = .ok (.iconst 0, 1) := by decide +kernel
theorem dL_law_4001 : decode cL_law 4001 = .ok (.ireturn, 1) := by decide +kernel
theorem dL_law_4002 : decode cL_law 4002 = .ok (.aload_n 1, 1) := by decide +kernel
theorem dL_law_4003 : decode cL_law 4003 = .ok (.invokevirtual 396, 3) := by decide +kernel
theorem dL_law_4006 : decode cL_law 4006 = .ok (.aload_n 2, 1) := by decide +kernel
theorem dL_law_4007 : decode cL_law 4007 = .ok (.invokevirtual 399, 3) := by decide +kernel
theorem dL_law_4010 : decode cL_law 4010 = .ok (.if_icmp .eq 651, 3) := by decide +kernel
theorem dL_law_4013 : decode cL_law 4013 = .ok (.iconst 0, 1) := by decide +kernel
theorem dL_law_4014 : decode cL_law 4014 = .ok (.ireturn, 1) := by decide +kernel
theorem dL_law_4015 : decode cL_law 4015 = .ok (.aload_n 1, 1) := by decide +kernel
theorem dL_law_4016 : decode cL_law 4016 = .ok (.invokevirtual 400, 3) := by decide +kernel
theorem dL_law_4019 : decode cL_law 4019 = .ok (.aload_n 2, 1) := by decide +kernel
theorem dL_law_4020 : decode cL_law 4020 = .ok (.invokevirtual 403, 3) := by decide +kernel
theorem dL_law_4023 : decode cL_law 4023 = .ok (.if_icmp .eq 638, 3) := by decide +kernel
theorem dL_law_4026 : decode cL_law 4026 = .ok (.iconst 0, 1) := by decide +kernel
theorem dL_law_4027 : decode cL_law 4027 = .ok (.ireturn, 1) := by decide +kernel
theorem dL_law_4028 : decode cL_law 4028 = .ok (.aload_n 1, 1) := by decide +kernel
theorem dL_law_4029 : decode cL_law 4029 = .ok (.invokevirtual 404, 3) := by decide +kernel
theorem dL_law_4032 : decode cL_law 4032 = .ok (.aload_n 2, 1) := by decide +kernel
theorem dL_law_4033 : decode cL_law 4033 = .ok (.invokevirtual 407, 3) := by decide +kernel
theorem dL_law_4036 : decode cL_law 4036 = .ok (.if_icmp .eq 625, 3) := by decide +kernel
theorem dL_law_4039 : decode cL_law 4039 = .ok (.iconst 0, 1) := by decide +kernel
theorem dL_law_4040 : decode cL_law 4040 = .ok (.ireturn, 1) := by decide +kernel
theorem dL_law_4041 : decode cL_law 4041 = .ok (.aload_n 1, 1) := by decide +kernel
theorem dL_law_4042 : decode cL_law 4042 = .ok (.invokevirtual 408, 3) := by decide +kernel
theorem dL_law_4045 : decode cL_law 4045 = .ok (.aload_n 2, 1) := by decide +kernel
theorem dL_law_4046 : decode cL_law 4046 = .ok (.invokevirtual 411, 3) := by decide +kernel
theorem dL_law_4049 : decode cL_law 4049 = .ok (.if_icmp .eq 612, 3) := by decide +kernel
theorem dL_law_4052 : decode cL_law 4052 = .ok (.iconst 0, 1) := by decide +kernel
theorem dL_law_4053 : decode cL_law 4053 = .ok (.ireturn, 1) := by decide +kernel
theorem dL_law_4054 : decode cL_law 4054 = .ok (.aload_n 1, 1) := by decide +kernel
theorem dL_law_4055 : decode cL_law 4055 = .ok (.invokevirtual 412, 3) := by decide +kernel
theorem dL_law_4058 : decode cL_law 4058 = .ok (.aload_n 2, 1) := by decide +kernel
theorem dL_law_4059 : decode cL_law 4059 = .ok (.invokevirtual 415, 3) := by decide +kernel
theorem dL_law_4062 : decode cL_law 4062 = .ok (.if_icmp .eq 599, 3) := by decide +kernel
theorem dL_law_4065 : decode cL_law 4065 = .ok (.iconst 0, 1) := by decide +kernel
theorem dL_law_4066 : decode cL_law 4066 = .ok (.ireturn, 1) := by decide +kernel
theorem dL_law_4067 : decode cL_law 4067 = .ok (.aload_n 1, 1) := by decide +kernel
theorem dL_law_4068 : decode cL_law 4068 = .ok (.invokevirtual 416, 3) := by decide +kernel
theorem dL_law_4071 : decode cL_law 4071 = .ok (.aload_n 2, 1) := by decide +kernel
theorem dL_law_4072 : decode cL_law 4072 = .ok (.invokevirtual 419, 3) := by decide +kernel
theorem dL_law_4075 : decode cL_law 4075 = .ok (.if_icmp .eq 586, 3) := by decide +kernel
theorem dL_law_4078 : decode cL_law 4078 = .ok (.iconst 0, 1) := by decide +kernel
theorem dL_law_4079 : decode cL_law 4079 = .ok (.ireturn, 1) := by decide +kernel
theorem dL_law_4080 : decode cL_law 4080 = .ok (.aload_n 1, 1) := by decide +kernel
theorem dL_law_4081 : decode cL_law 4081 = .ok (.invokevirtual 420, 3) := by decide +kernel
theorem dL_law_4084 : decode cL_law 4084 = .ok (.aload_n 2, 1) := by decide +kernel
theorem dL_law_4085 : decode cL_law 4085 = .ok (.invokevirtual 423, 3) := by decide +kernel
theorem dL_law_4088 : decode cL_law 4088 = .ok (.if_icmp .eq 573, 3) := by decide +kernel
theorem dL_law_4091 : decode cL_law 4091 = .ok (.iconst 0, 1) := by decide +kernel
theorem dL_law_4092 : decode cL_law 4092 = .ok (.ireturn, 1) := by decide +kernel
theorem dL_law_4093 : decode cL_law 4093 = .ok (.aload_n 1, 1) := by decide +kernel
theorem dL_law_4094 : decode cL_law 4094 = .ok (.invokevirtual 424, 3) := by decide +kernel
theorem dL_law_4097 : decode cL_law 4097 = .ok (.aload_n 2, 1) := by decide +kernel
theorem dL_law_4098 : decode cL_law 4098 = .ok (.invokevirtual 427, 3) := by decide +kernel
theorem dL_law_4101 : decode cL_law 4101 = .ok (.if_icmp .eq 560, 3) := by decide +kernel
theorem dL_law_4104 : decode cL_law 4104 = .ok (.iconst 0, 1) := by decide +kernel
theorem dL_law_4105 : decode cL_law 4105 = .ok (.ireturn, 1) := by decide +kernel
theorem dL_law_4106 : decode cL_law 4106 = .ok (.aload_n 1, 1) := by decide +kernel
theorem dL_law_4107 : decode cL_law 4107 = .ok (.invokevirtual 428, 3) := by decide +kernel
theorem dL_law_4110 : decode cL_law 4110 = .ok (.aload_n 2, 1) := by decide +kernel
theorem dL_law_4111 : decode cL_law 4111 = .ok (.invokevirtual 431, 3) := by decide +kernel
theorem dL_law_4114 : decode cL_law 4114 = .ok (.if_icmp .eq 547, 3) := by decide +kernel
theorem dL_law_4117 : decode cL_law 4117 = .ok (.iconst 0, 1) := by decide +kernel
theorem dL_law_4118 : decode cL_law 4118 = .ok (.ireturn, 1) := by decide +kernel
theorem dL_law_4119 : decode cL_law 4119 = .ok (.aload_n 1, 1) := by decide +kernel
theorem dL_law_4120 : decode cL_law 4120 = .ok (.invokevirtual 432, 3) := by decide +kernel
theorem dL_law_4123 : decode cL_law 4123 = .ok (.aload_n 2, 1) := by decide +kernel
theorem dL_law_4124 : decode cL_law 4124 = .ok (.invokevirtual 436, 3) := by decide +kernel
theorem dL_law_4127 : decode cL_law 4127 = .ok (.if_icmp .eq 534, 3) := by decide +kernel
theorem dL_law_4130 : decode cL_law 4130 = .ok (.iconst 0, 1) := by decide +kernel
theorem dL_law_4131 : decode cL_law 4131 = .ok (.ireturn, 1) := by decide +kernel
theorem dL_law_4132 : decode cL_law 4132 = .ok (.aload_n 1, 1) := by decide +kernel
theorem dL_law_4133 : decode cL_law 4133 = .ok (.invokevirtual 437, 3) := by decide +kernel
theorem dL_law_4136 : decode cL_law 4136 = .ok (.aload_n 2, 1) := by decide +kernel
theorem dL_law_4137 : decode cL_law 4137 = .ok (.invokevirtual 440, 3) := by decide +kernel
theorem dL_law_4140 : decode cL_law 4140 = .ok (.if_icmp .eq 521, 3) := by decide +kernel
theorem dL_law_4143 : decode cL_law 4143 = .ok (.iconst 0, 1) := by decide +kernel
theorem dL_law_4144 : decode cL_law 4144 = .ok (.ireturn, 1) := by decide +kernel
theorem dL_law_4145 : decode cL_law 4145 = .ok (.aload_n 1, 1) := by decide +kernel
theorem dL_law_4146 : decode cL_law 4146 = .ok (.invokevirtual 441, 3) := by decide +kernel
theorem dL_law_4149 : decode cL_law 4149 = .ok (.aload_n 2, 1) := by decide +kernel
theorem dL_law_4150 : decode cL_law 4150 = .ok (.invokevirtual 444, 3) := by decide +kernel
theorem dL_law_4153 : decode cL_law 4153 = .ok (.if_icmp .eq 508, 3) := by decide +kernel
theorem dL_law_4156 : decode cL_law 4156 = .ok (.iconst 0, 1) := by decide +kernel
theorem dL_law_4157 : decode cL_law 4157 = .ok (.ireturn, 1) := by decide +kernel
theorem dL_law_4158 : decode cL_law 4158 = .ok (.aload_n 1, 1) := by decide +kernel
theorem dL_law_4159 : decode cL_law 4159 = .ok (.aload_n 0, 1) := by decide +kernel
theorem dL_law_4160 : decode cL_law 4160 = .ok (.iload 4, 2) := by decide +kernel
theorem dL_law_4162 : decode cL_law 4162 = .ok (.iconst 1, 1) := by decide +kernel
theorem dL_law_4163 : decode cL_law 4163 = .ok (.iadd, 1) := by decide +kernel
theorem dL_law_4164 : decode cL_law 4164 = .ok (.iaload, 1) := by decide +kernel
theorem dL_law_4165 : decode cL_law 4165 = .ok (.aload_n 3, 1) := by decide +kernel
theorem dL_law_4166 : decode cL_law 4166 = .ok (.invokestatic 445, 3) := by decide +kernel
theorem dL_law_4169 : decode cL_law 4169 = .ok (.istore 5, 2) := by decide +kernel
theorem dL_law_4171 : decode cL_law 4171 = .ok (.aload_n 2, 1) := by decide +kernel
theorem dL_law_4172 : decode cL_law 4172 = .ok (.aload_n 0, 1) := by decide +kernel
theorem dL_law_4173 : decode cL_law 4173 = .ok (.iload 4, 2) := by decide +kernel
theorem dL_law_4175 : decode cL_law 4175 = .ok (.iconst 1, 1) := by decide +kernel
theorem dL_law_4176 : decode cL_law 4176 = .ok (.iadd, 1) := by decide +kernel
theorem dL_law_4177 : decode cL_law 4177 = .ok (.iaload, 1) := by decide +kernel
theorem dL_law_4178 : decode cL_law 4178 = .ok (.invokevirtual 447, 3) := by decide +kernel
theorem dL_law_4181 : decode cL_law 4181 = .ok (.istore 6, 2) := by decide +kernel
theorem dL_law_4183 : decode cL_law 4183 = .ok (.aload_n 2, 1) := by decide +kernel
theorem dL_law_4184 : decode cL_law 4184 = .ok (.invokevirtual 212, 3) := by decide +kernel
theorem dL_law_4187 : decode cL_law 4187 = .ok (.iload 5, 2) := by decide +kernel
theorem dL_law_4189 : decode cL_law 4189 = .ok (.if_icmp .eq 5, 3) := by decide +kernel
theorem dL_law_4192 : decode cL_law 4192 = .ok (.iconst 0, 1) := by decide +kernel
theorem dL_law_4193 : decode cL_law 4193 = .ok (.ireturn, 1) := by decide +kernel
theorem dL_law_4194 : decode cL_law 4194 = .ok (.iload 5, 2) := by decide +kernel
theorem dL_law_4196 : decode cL_law 4196 = .ok (.ifCond .ne 15, 3) := by decide +kernel
theorem dL_law_4199 : decode cL_law 4199 = .ok (.aload_n 3, 1) := by decide +kernel
theorem dL_law_4200 : decode cL_law 4200 = .ok (.iconst 0, 1) := by decide +kernel
theorem dL_law_4201 : decode cL_law 4201 = .ok (.laload, 1) := by decide +kernel
theorem dL_law_4202 : decode cL_law 4202 = .ok (.iload 6, 2) := by decide +kernel
theorem dL_law_4204 : decode cL_law 4204 = .ok (.i2l, 1) := by decide +kernel
theorem dL_law_4205 : decode cL_law 4205 = .ok (.lcmp, 1) := by decide +kernel
theorem dL_law_4206 : decode cL_law 4206 = .ok (.ifCond .eq 5, 3) := by decide +kernel
theorem dL_law_4209 : decode cL_law 4209 = .ok (.iconst 0, 1) := by decide +kernel
theorem dL_law_4210 : decode cL_law 4210 = .ok (.ireturn, 1) := by decide +kernel
theorem dL_law_4211 : decode cL_law 4211 = .ok (.goto 450, 3) := by decide +kernel
theorem dL_law_4214 : decode cL_law 4214 = .ok (.aload_n 1, 1) := by decide +kernel
theorem dL_law_4215 : decode cL_law 4215 = .ok (.aload_n 0, 1) := by decide +kernel
theorem dL_law_4216 : decode cL_law 4216 = .ok (.iload 4, 2) := by decide +kernel
theorem dL_law_4218 : decode cL_law 4218 = .ok (.iconst 1, 1) := by decide +kernel
theorem dL_law_4219 : decode cL_law 4219 = .ok (.iadd, 1) := by decide +kernel
theorem dL_law_4220 : decode cL_law 4220 = .ok (.iaload, 1) := by decide +kernel
theorem dL_law_4221 : decode cL_law 4221 = .ok (.invokevirtual 448, 3) := by decide +kernel
theorem dL_law_4224 : decode cL_law 4224 = .ok (.aload_n 2, 1) := by decide +kernel
theorem dL_law_4225 : decode cL_law 4225 = .ok (.aload_n 0, 1) := by decide +kernel
theorem dL_law_4226 : decode cL_law 4226 = .ok (.iload 4, 2) := by decide +kernel
theorem dL_law_4228 : decode cL_law 4228 = .ok (.iconst 1, 1) := by decide +kernel
theorem dL_law_4229 : decode cL_law 4229 = .ok (.iadd, 1) := by decide +kernel
theorem dL_law_4230 : decode cL_law 4230 = .ok (.iaload, 1) := by decide +kernel
theorem dL_law_4231 : decode cL_law 4231 = .ok (.invokevirtual 451, 3) := by decide +kernel
theorem dL_law_4234 : decode cL_law 4234 = .ok (.if_icmp .eq 427, 3) := by decide +kernel
theorem dL_law_4237 : decode cL_law 4237 = .ok (.iconst 0, 1) := by decide +kernel
theorem dL_law_4238 : decode cL_law 4238 = .ok (.ireturn, 1) := by decide +kernel
theorem dL_law_4239 : decode cL_law 4239 = .ok (.aload_n 1, 1) := by decide +kernel
theorem dL_law_4240 : decode cL_law 4240 = .ok (.aload_n 0, 1) := by decide +kernel
theorem dL_law_4241 : decode cL_law 4241 = .ok (.iload 4, 2) := by decide +kernel
theorem dL_law_4243 : decode cL_law 4243 = .ok (.iconst 1, 1) := by decide +kernel
theorem dL_law_4244 : decode cL_law 4244 = .ok (.iadd, 1) := by decide +kernel
theorem dL_law_4245 : decode cL_law 4245 = .ok (.iaload, 1) := by decide +kernel
theorem dL_law_4246 : decode cL_law 4246 = .ok (.invokevirtual 452, 3) := by decide +kernel
theorem dL_law_4249 : decode cL_law 4249 = .ok (.aload_n 2, 1) := by decide +kernel
theorem dL_law_4250 : decode cL_law 4250 = .ok (.aload_n 0, 1) := by decide +kernel
theorem dL_law_4251 : decode cL_law 4251 = .ok (.iload 4, 2) := by decide +kernel
theorem dL_law_4253 : decode cL_law 4253 = .ok (.iconst 1, 1) := by decide +kernel
theorem dL_law_4254 : decode cL_law 4254 = .ok (.iadd, 1) := by decide +kernel
theorem dL_law_4255 : decode cL_law 4255 = .ok (.iaload, 1) := by decide +kernel
theorem dL_law_4256 : decode cL_law 4256 = .ok (.invokevirtual 455, 3) := by decide +kernel
theorem dL_law_4259 : decode cL_law 4259 = .ok (.if_icmp .eq 402, 3) := by decide +kernel
theorem dL_law_4262 : decode cL_law 4262 = .ok (.iconst 0, 1) := by decide +kernel
theorem dL_law_4263 : decode cL_law 4263 = .ok (.ireturn, 1) := by decide +kernel
theorem dL_law_4264 : decode cL_law 4264 = .ok (.aload_n 1, 1) := by decide +kernel
theorem dL_law_4265 : decode cL_law 4265 = .ok (.aload_n 0, 1) := by decide +kernel
theorem dL_law_4266 : decode cL_law 4266 = .ok (.iload 4, 2) := by decide +kernel
theorem dL_law_4268 : decode cL_law 4268 = .ok (.iconst 1, 1) := by decide +kernel
theorem dL_law_4269 : decode cL_law 4269 = .ok (.iadd, 1) := by decide +kernel
theorem dL_law_4270 : decode cL_law 4270 = .ok (.iaload, 1) := by decide +kernel
theorem dL_law_4271 : decode cL_law 4271 = .ok (.invokevirtual 456, 3) := by decide +kernel
theorem dL_law_4274 : decode cL_law 4274 = .ok (.aload_n 2, 1) := by decide +kernel
theorem dL_law_4275 : decode cL_law 4275 = .ok (.aload_n 0, 1) := by decide +kernel
theorem dL_law_4276 : decode cL_law 4276 = .ok (.iload 4, 2) := by decide +kernel
theorem dL_law_4278 : decode cL_law 4278 = .ok (.iconst 1, 1) := by decide +kernel
theorem dL_law_4279 : decode cL_law 4279 = .ok (.iadd, 1) := by decide +kernel
theorem dL_law_4280 : decode cL_law 4280 = .ok (.iaload, 1) := by decide +kernel
theorem dL_law_4281 : decode cL_law 4281 = .ok (.invokevirtual 459, 3) := by decide +kernel
theorem dL_law_4284 : decode cL_law 4284 = .ok (.if_icmp .eq 377, 3) := by decide +kernel
theorem dL_law_4287 : decode cL_law 4287 = .ok (.iconst 0, 1) := by decide +kernel
theorem dL_law_4288 : decode cL_law 4288 = .ok (.ireturn, 1) := by decide +kernel
theorem dL_law_4289 : decode cL_law 4289 = .ok (.aload_n 1, 1) := by decide +kernel
theorem dL_law_4290 : decode cL_law 4290 = .ok (.aload_n 0, 1) := by decide +kernel
theorem dL_law_4291 : decode cL_law 4291 = .ok (.iload 4, 2) := by decide +kernel
theorem dL_law_4293 : decode cL_law 4293 = .ok (.iconst 1, 1) := by decide +kernel
theorem dL_law_4294 : decode cL_law 4294 = .ok (.iadd, 1) := by decide +kernel
theorem dL_law_4295 : decode cL_law 4295 = .ok (.iaload, 1) := by decide +kernel
theorem dL_law_4296 : decode cL_law 4296 = .ok (.ifCond .eq 7, 3) := by decide +kernel
theorem dL_law_4299 : decode cL_law 4299 = .ok (.iconst 1, 1) := by decide +kernel
theorem dL_law_4300 : decode cL_law 4300 = .ok (.goto 4, 3) := by decide +kernel
theorem dL_law_4303 : decode cL_law 4303 = .ok (.iconst 0, 1) := by decide +kernel
theorem dL_law_4304 : decode cL_law 4304 = .ok (.invokevirtual 460, 3) := by decide +kernel
theorem dL_law_4307 : decode cL_law 4307 = .ok (.aload_n 2, 1) := by decide +kernel
theorem dL_law_4308 : decode cL_law 4308 = .ok (.aload_n 0, 1) := by decide +kernel
theorem dL_law_4309 : decode cL_law 4309 = .ok (.iload 4, 2) := by decide +kernel
theorem dL_law_4311 : decode cL_law 4311 = .ok (.iconst 1, 1) := by decide +kernel
theorem dL_law_4312 : decode cL_law 4312 = .ok (.iadd, 1) := by decide +kernel
theorem dL_law_4313 : decode cL_law 4313 = .ok (.iaload, 1) := by decide +kernel
theorem dL_law_4314 : decode cL_law 4314 = .ok (.ifCond .eq 7, 3) := by decide +kernel
theorem dL_law_4317 : decode cL_law 4317 = .ok (.iconst 1, 1) := by decide +kernel
theorem dL_law_4318 : decode cL_law 4318 = .ok (.goto 4, 3) := by decide +kernel
theorem dL_law_4321 : decode cL_law 4321 = .ok (.iconst 0, 1) := by decide +kernel
theorem dL_law_4322 : decode cL_law 4322 = .ok (.invokevirtual 463, 3) := by decide +kernel
theorem dL_law_4325 : decode cL_law 4325 = .ok (.if_icmp .eq 336, 3) := by decide +kernel
theorem dL_law_4328 : decode cL_law 4328 = .ok (.iconst 0, 1) := by decide +kernel
theorem dL_law_4329 : decode cL_law 4329 = .ok (.ireturn, 1) := by decide +kernel
theorem dL_law_4330 : decode cL_law 4330 = .ok (.aload_n 1, 1) := by decide +kernel
theorem dL_law_4331 : decode cL_law 4331 = .ok (.aload_n 0, 1) := by decide +kernel
theorem dL_law_4332 : decode cL_law 4332 = .ok (.iload 4, 2) := by decide +kernel
theorem dL_law_4334 : decode cL_law 4334 = .ok (.iconst 1, 1) := by decide +kernel
theorem dL_law_4335 : decode cL_law 4335 = .ok (.iadd, 1) := by decide +kernel
theorem dL_law_4336 : decode cL_law 4336 = .ok (.iaload, 1) := by decide +kernel
theorem dL_law_4337 : decode cL_law 4337 = .ok (.aload_n 3, 1) := by decide +kernel
theorem dL_law_4338 : decode cL_law 4338 = .ok (.invokestatic 464, 3) := by decide +kernel
theorem dL_law_4341 : decode cL_law 4341 = .ok (.istore 5, 2) := by decide +kernel
theorem dL_law_4343 : decode cL_law 4343 = .ok (.aload_n 2, 1) := by decide +kernel
theorem dL_law_4344 : decode cL_law 4344 = .ok (.aload_n 0, 1) := by decide +kernel
theorem dL_law_4345 : decode cL_law 4345 = .ok (.iload 4, 2) := by decide +kernel
theorem dL_law_4347 : decode cL_law 4347 = .ok (.iconst 1, 1) := by decide +kernel
theorem dL_law_4348 : decode cL_law 4348 = .ok (.iadd, 1) := by decide +kernel
theorem dL_law_4349 : decode cL_law 4349 = .ok (.iaload, 1) := by decide +kernel
theorem dL_law_4350 : decode cL_law 4350 = .ok (.invokevirtual 466, 3) := by decide +kernel
theorem dL_law_4353 : decode cL_law 4353 = .ok (.istore 6, 2) := by decide +kernel
theorem dL_law_4355 : decode cL_law 4355 = .ok (.aload_n 2, 1) := by decide +kernel
theorem dL_law_4356 : decode cL_law 4356 = .ok (.invokevirtual 212, 3) := by decide +kernel
theorem dL_law_4359 : decode cL_law 4359 = .ok (.iload 5, 2) := by decide +kernel
theorem dL_law_4361 : decode cL_law 4361 = .ok (.if_icmp .eq 5, 3) := by decide +kernel
theorem dL_law_4364 : decode cL_law 4364 = .ok (.iconst 0, 1) := by decide +kernel
theorem dL_law_4365 : decode cL_law 4365 = .ok (.ireturn, 1) := by decide +kernel
theorem dL_law_4366 : decode cL_law 4366 = .ok (.iload 5, 2) := by decide +kernel
theorem dL_law_4368 : decode cL_law 4368 = .ok (.ifCond .ne 15, 3) := by decide +kernel
theorem dL_law_4371 : decode cL_law 4371 = .ok (.aload_n 3, 1) := by decide +kernel
theorem dL_law_4372 : decode cL_law 4372 = .ok (.iconst 0, 1) := by decide +kernel
theorem dL_law_4373 : decode cL_law 4373 = .ok (.laload, 1) := by decide +kernel
theorem dL_law_4374 : decode cL_law 4374 = .ok (.iload 6, 2) := by decide +kernel
theorem dL_law_4376 : decode cL_law 4376 = .ok (.i2l, 1) := by decide +kernel
theorem dL_law_4377 : decode cL_law 4377 = .ok (.lcmp, 1) := by decide +kernel
theorem dL_law_4378 : decode cL_law 4378 = .ok (.ifCond .eq 5, 3) := by decide +kernel
theorem dL_law_4381 : decode cL_law 4381 = .ok (.iconst 0, 1) := by decide +kernel
theorem dL_law_4382 : decode cL_law 4382 = .ok (.ireturn, 1) := by decide +kernel
theorem dL_law_4383 : decode cL_law 4383 = .ok (.goto 278, 3) := by decide +kernel
theorem dL_law_4386 : decode cL_law 4386 = .ok (.aload_n 1, 1) := by decide +kernel
theorem dL_law_4387 : decode cL_law 4387 = .ok (.invokevirtual 467, 3) := by decide +kernel
theorem dL_law_4390 : decode cL_law 4390 = .ok (.aload_n 2, 1) := by decide +kernel
theorem dL_law_4391 : decode cL_law 4391 = .ok (.invokevirtual 470, 3) := by decide +kernel
theorem dL_law_4394 : decode cL_law 4394 = .ok (.if_icmp .eq 267, 3) := by decide +kernel
theorem dL_law_4397 : decode cL_law 4397 = .ok (.iconst 0, 1) := by decide +kernel
theorem dL_law_4398 : decode cL_law 4398 = .ok (.ireturn, 1) := by decide +kernel
theorem dL_law_4399 : decode cL_law 4399 = .ok (.aload_n 1, 1) := by decide +kernel
theorem dL_law_4400 : decode cL_law 4400 = .ok (.aload_n 0, 1) := by decide +kernel
theorem dL_law_4401 : decode cL_law 4401 = .ok (.iload 4, 2) := by decide +kernel
theorem dL_law_4403 : decode cL_law 4403 = .ok (.iconst 1, 1) := by decide +kernel
theorem dL_law_4404 : decode cL_law 4404 = .ok (.iadd, 1) := by decide +kernel
theorem dL_law_4405 : decode cL_law 4405 = .ok (.iaload, 1) := by decide +kernel
theorem dL_law_4406 : decode cL_law 4406 = .ok (.aload_n 3, 1) := by decide +kernel
theorem dL_law_4407 : decode cL_law 4407 = .ok (.invokestatic 471, 3) := by decide +kernel
theorem dL_law_4410 : decode cL_law 4410 = .ok (.istore 5, 2) := by decide +kernel
theorem dL_law_4412 : decode cL_law 4412 = .ok (.aload_n 2, 1) := by decide +kernel
theorem dL_law_4413 : decode cL_law 4413 = .ok (.aload_n 0, 1) := by decide +kernel
theorem dL_law_4414 : decode cL_law 4414 = .ok (.iload 4, 2) := by decide +kernel
theorem dL_law_4416 : decode cL_law 4416 = .ok (.iconst 1, 1) := by decide +kernel
theorem dL_law_4417 : decode cL_law 4417 = .ok (.iadd, 1) := by decide +kernel
theorem dL_law_4418 : decode cL_law 4418 = .ok (.iaload, 1) := by decide +kernel
theorem dL_law_4419 : decode cL_law 4419 = .ok (.invokevirtual 473, 3) := by decide +kernel
theorem dL_law_4422 : decode cL_law 4422 = .ok (.istore 6, 2) := by decide +kernel
theorem dL_law_4424 : decode cL_law 4424 = .ok (.aload_n 2, 1) := by decide +kernel
theorem dL_law_4425 : decode cL_law 4425 = .ok (.invokevirtual 212, 3) := by decide +kernel
theorem dL_law_4428 : decode cL_law 4428 = .ok (.iload 5, 2) := by decide +kernel
theorem dL_law_4430 : decode cL_law 4430 = .ok (.if_icmp .eq 5, 3) := by decide +kernel
theorem dL_law_4433 : decode cL_law 4433 = .ok (.iconst 0, 1) := by decide +kernel
theorem dL_law_4434 : decode cL_law 4434 = .ok (.ireturn, 1) := by decide +kernel
theorem dL_law_4435 : decode cL_law 4435 = .ok (.iload 5, 2) := by decide +kernel
theorem dL_law_4437 : decode cL_law 4437 = .ok (.ifCond .ne 22, 3) := by decide +kernel
theorem dL_law_4440 : decode cL_law 4440 = .ok (.aload_n 3, 1) := by decide +kernel
theorem dL_law_4441 : decode cL_law 4441 = .ok (.iconst 0, 1) := by decide +kernel
theorem dL_law_4442 : decode cL_law 4442 = .ok (.laload, 1) := by decide +kernel
theorem dL_law_4443 : decode cL_law 4443 = .ok (.iload 6, 2) := by decide +kernel
theorem dL_law_4445 : decode cL_law 4445 = .ok (.ifCond .eq 7, 3) := by decide +kernel
theorem dL_law_4448 : decode cL_law 4448 = .ok (.lconst 1, 1) := by decide +kernel
theorem dL_law_4449 : decode cL_law 4449 = .ok (.goto 4, 3) := by decide +kernel
theorem dL_law_4452 : decode cL_law 4452 = .ok (.lconst 0, 1) := by decide +kernel
theorem dL_law_4453 : decode cL_law 4453 = .ok (.lcmp, 1) := by decide +kernel
theorem dL_law_4454 : decode cL_law 4454 = .ok (.ifCond .eq 5, 3) := by decide +kernel
theorem dL_law_4457 : decode cL_law 4457 = .ok (.iconst 0, 1) := by decide +kernel
theorem dL_law_4458 : decode cL_law 4458 = .ok (.ireturn, 1) := by decide +kernel
theorem dL_law_4459 : decode cL_law 4459 = .ok (.goto 202, 3) := by decide +kernel
theorem dL_law_4462 : decode cL_law 4462 = .ok (.aload_n 1, 1) := by decide +kernel
theorem dL_law_4463 : decode cL_law 4463 = .ok (.aload_n 0, 1) := by decide +kernel
theorem dL_law_4464 : decode cL_law 4464 = .ok (.iload 4, 2) := by decide +kernel
theorem dL_law_4466 : decode cL_law 4466 = .ok (.iconst 1, 1) := by decide +kernel
theorem dL_law_4467 : decode cL_law 4467 = .ok (.iadd, 1) := by decide +kernel
theorem dL_law_4468 : decode cL_law 4468 = .ok (.iaload, 1) := by decide +kernel
theorem dL_law_4469 : decode cL_law 4469 = .ok (.aload_n 3, 1) := by decide +kernel
theorem dL_law_4470 : decode cL_law 4470 = .ok (.invokestatic 474, 3) := by decide +kernel
theorem dL_law_4473 : decode cL_law 4473 = .ok (.istore 5, 2) := by decide +kernel
theorem dL_law_4475 : decode cL_law 4475 = .ok (.aload_n 2, 1) := by decide +kernel
theorem dL_law_4476 : decode cL_law 4476 = .ok (.aload_n 0, 1) := by decide +kernel
theorem dL_law_4477 : decode cL_law 4477 = .ok (.iload 4, 2) := by decide +kernel
theorem dL_law_4479 : decode cL_law 4479 = .ok (.iconst 1, 1) := by decide +kernel
theorem dL_law_4480 : decode cL_law 4480 = .ok (.iadd, 1) := by decide +kernel
theorem dL_law_4481 : decode cL_law 4481 = .ok (.iaload, 1) := by decide +kernel
theorem dL_law_4482 : decode cL_law 4482 = .ok (.invokevirtual 476, 3) := by decide +kernel
theorem dL_law_4485 : decode cL_law 4485 = .ok (.istore 6, 2) := by decide +kernel
theorem dL_law_4487 : decode cL_law 4487 = .ok (.aload_n 2, 1) := by decide +kernel
theorem dL_law_4488 : decode cL_law 4488 = .ok (.invokevirtual 212, 3) := by decide +kernel
theorem dL_law_4491 : decode cL_law 4491 = .ok (.iload 5, 2) := by decide +kernel
theorem dL_law_4493 : decode cL_law 4493 = .ok (.if_icmp .eq 5, 3) := by decide +kernel
theorem dL_law_4496 : decode cL_law 4496 = .ok (.iconst 0, 1) := by decide +kernel
theorem dL_law_4497 : decode cL_law 4497 = .ok (.ireturn, 1) := by decide +kernel
theorem dL_law_4498 : decode cL_law 4498 = .ok (.iload 5, 2) := by decide +kernel
theorem dL_law_4500 : decode cL_law 4500 = .ok (.ifCond .ne 15, 3) := by decide +kernel
theorem dL_law_4503 : decode cL_law 4503 = .ok (.aload_n 3, 1) := by decide +kernel
theorem dL_law_4504 : decode cL_law 4504 = .ok (.iconst 0, 1) := by decide +kernel
theorem dL_law_4505 : decode cL_law 4505 = .ok (.laload, 1) := by decide +kernel
theorem dL_law_4506 : decode cL_law 4506 = .ok (.iload 6, 2) := by decide +kernel
theorem dL_law_4508 : decode cL_law 4508 = .ok (.i2l, 1) := by decide +kernel
theorem dL_law_4509 : decode cL_law 4509 = .ok (.lcmp, 1) := by decide +kernel
theorem dL_law_4510 : decode cL_law 4510 = .ok (.ifCond .eq 5, 3) := by decide +kernel
theorem dL_law_4513 : decode cL_law 4513 = .ok (.iconst 0, 1) := by decide +kernel
theorem dL_law_4514 : decode cL_law 4514 = .ok (.ireturn, 1) := by decide +kernel
theorem dL_law_4515 : decode cL_law 4515 = .ok (.goto 146, 3) := by decide +kernel
theorem dL_law_4518 : decode cL_law 4518 = .ok (.aload_n 1, 1) := by decide +kernel
theorem dL_law_4519 : decode cL_law 4519 = .ok (.aload_n 0, 1) := by decide +kernel
theorem dL_law_4520 : decode cL_law 4520 = .ok (.iload 4, 2) := by decide +kernel
theorem dL_law_4522 : decode cL_law 4522 = .ok (.iconst 1, 1) := by decide +kernel
theorem dL_law_4523 : decode cL_law 4523 = .ok (.iadd, 1) := by decide +kernel
theorem dL_law_4524 : decode cL_law 4524 = .ok (.iaload, 1) := by decide +kernel
theorem dL_law_4525 : decode cL_law 4525 = .ok (.aload_n 0, 1) := by decide +kernel
theorem dL_law_4526 : decode cL_law 4526 = .ok (.iload 4, 2) := by decide +kernel
theorem dL_law_4528 : decode cL_law 4528 = .ok (.iconst 2, 1) := by decide +kernel
theorem dL_law_4529 : decode cL_law 4529 = .ok (.iadd, 1) := by decide +kernel
theorem dL_law_4530 : decode cL_law 4530 = .ok (.iaload, 1) := by decide +kernel
theorem dL_law_4531 : decode cL_law 4531 = .ok (.aload_n 3, 1) := by decide +kernel
theorem dL_law_4532 : decode cL_law 4532 = .ok (.invokestatic 477, 3) := by decide +kernel
theorem dL_law_4535 : decode cL_law 4535 = .ok (.istore 5, 2) := by decide +kernel
theorem dL_law_4537 : decode cL_law 4537 = .ok (.aload_n 2, 1) := by decide +kernel
theorem dL_law_4538 : decode cL_law 4538 = .ok (.aload_n 0, 1) := by decide +kernel
theorem dL_law_4539 : decode cL_law 4539 = .ok (.iload 4, 2) := by decide +kernel
theorem dL_law_4541 : decode cL_law 4541 = .ok (.iconst 1, 1) := by decide +kernel
theorem dL_law_4542 : decode cL_law 4542 = .ok (.iadd, 1) := by decide +kernel
theorem dL_law_4543 : decode cL_law 4543 = .ok (.iaload, 1) := by decide +kernel
theorem dL_law_4544 : decode cL_law 4544 = .ok (.aload_n 0, 1) := by decide +kernel
theorem dL_law_4545 : decode cL_law 4545 = .ok (.iload 4, 2) := by decide +kernel
theorem dL_law_4547 : decode cL_law 4547 = .ok (.iconst 2, 1) := by decide +kernel
theorem dL_law_4548 : decode cL_law 4548 = .ok (.iadd, 1) := by decide +kernel
theorem dL_law_4549 : decode cL_law 4549 = .ok (.iaload, 1) := by decide +kernel
theorem dL_law_4550 : decode cL_law 4550 = .ok (.invokevirtual 479, 3) := by decide +kernel
theorem dL_law_4553 : decode cL_law 4553 = .ok (.istore 6, 2) := by decide +kernel
theorem dL_law_4555 : decode cL_law 4555 = .ok (.aload_n 2, 1) := by decide +kernel
theorem dL_law_4556 : decode cL_law 4556 = .ok (.invokevirtual 212, 3) := by decide +kernel
theorem dL_law_4559 : decode cL_law 4559 = .ok (.iload 5, 2) := by decide +kernel
theorem dL_law_4561 : decode cL_law 4561 = .ok (.if_icmp .eq 5, 3) := by decide +kernel
theorem dL_law_4564 : decode cL_law 4564 = .ok (.iconst 0, 1) := by decide +kernel
theorem dL_law_4565 : decode cL_law 4565 = .ok (.ireturn, 1) := by decide +kernel
theorem dL_law_4566 : decode cL_law 4566 = .ok (.iload 5, 2) := by decide +kernel
theorem dL_law_4568 : decode cL_law 4568 = .ok (.ifCond .ne 22, 3) := by decide +kernel
theorem dL_law_4571 : decode cL_law 4571 = .ok (.aload_n 3, 1) := by decide +kernel
theorem dL_law_4572 : decode cL_law 4572 = .ok (.iconst 0, 1) := by decide +kernel
theorem dL_law_4573 : decode cL_law 4573 = .ok (.laload, 1) := by decide +kernel
theorem dL_law_4574 : decode cL_law 4574 = .ok (.iload 6, 2) := by decide +kernel
theorem dL_law_4576 : decode cL_law 4576 = .ok (.ifCond .eq 7, 3) := by decide +kernel
theorem dL_law_4579 : decode cL_law 4579 = .ok (.lconst 1, 1) := by decide +kernel
theorem dL_law_4580 : decode cL_law 4580 = .ok (.goto 4, 3) := by decide +kernel
theorem dL_law_4583 : decode cL_law 4583 = .ok (.lconst 0, 1) := by decide +kernel
theorem dL_law_4584 : decode cL_law 4584 = .ok (.lcmp, 1) := by decide +kernel
theorem dL_law_4585 : decode cL_law 4585 = .ok (.ifCond .eq 5, 3) := by decide +kernel
theorem dL_law_4588 : decode cL_law 4588 = .ok (.iconst 0, 1) := by decide +kernel
theorem dL_law_4589 : decode cL_law 4589 = .ok (.ireturn, 1) := by decide +kernel
theorem dL_law_4590 : decode cL_law 4590 = .ok (.goto 71, 3) := by decide +kernel
theorem dL_law_4593 : decode cL_law 4593 = .ok (.aload_n 1, 1) := by decide +kernel
theorem dL_law_4594 : decode cL_law 4594 = .ok (.invokevirtual 480, 3) := by decide +kernel
theorem dL_law_4597 : decode cL_law 4597 = .ok (.aload_n 2, 1) := by decide +kernel
theorem dL_law_4598 : decode cL_law 4598 = .ok (.invokevirtual 483, 3) := by decide +kernel
theorem dL_law_4601 : decode cL_law 4601 = .ok (.if_icmp .eq 60, 3) := by decide +kernel
theorem dL_law_4604 : decode cL_law 4604 = .ok (.iconst 0, 1) := by decide +kernel
theorem dL_law_4605 : decode cL_law 4605 = .ok (.ireturn, 1) := by decide +kernel
theorem dL_law_4606 : decode cL_law 4606 = .ok (.aload_n 1, 1) := by decide +kernel
theorem dL_law_4607 : decode cL_law 4607 = .ok (.invokevirtual 484, 3) := by decide +kernel
theorem dL_law_4610 : decode cL_law 4610 = .ok (.dstore 5, 2) := by decide +kernel
theorem dL_law_4612 : decode cL_law 4612 = .ok (.aload_n 2, 1) := by decide +kernel
theorem dL_law_4613 : decode cL_law 4613 = .ok (.invokevirtual 488, 3) := by decide +kernel
theorem dL_law_4616 : decode cL_law 4616 = .ok (.dstore 7, 2) := by decide +kernel
theorem dL_law_4618 : decode cL_law 4618 = .ok (.dload 5, 2) := by decide +kernel
theorem dL_law_4620 : decode cL_law 4620 = .ok (.dload 7, 2) := by decide +kernel
theorem dL_law_4622 : decode cL_law 4622 = .ok (.dcmp .l, 1) := by decide +kernel
theorem dL_law_4623 : decode cL_law 4623 = .ok (.ifCond .eq 21, 3) := by decide +kernel
theorem dL_law_4626 : decode cL_law 4626 = .ok (.dload 5, 2) := by decide +kernel
theorem dL_law_4628 : decode cL_law 4628 = .ok (.dload 5, 2) := by decide +kernel
theorem dL_law_4630 : decode cL_law 4630 = .ok (.dcmp .l, 1) := by decide +kernel
theorem dL_law_4631 : decode cL_law 4631 = .ok (.ifCond .eq 11, 3) := by decide +kernel
theorem dL_law_4634 : decode cL_law 4634 = .ok (.dload 7, 2) := by decide +kernel
theorem dL_law_4636 : decode cL_law 4636 = .ok (.dload 7, 2) := by decide +kernel
theorem dL_law_4638 : decode cL_law 4638 = .ok (.dcmp .l, 1) := by decide +kernel
theorem dL_law_4639 : decode cL_law 4639 = .ok (.ifCond .ne 5, 3) := by decide +kernel
theorem dL_law_4642 : decode cL_law 4642 = .ok (.iconst 0, 1) := by decide +kernel
theorem dL_law_4643 : decode cL_law 4643 = .ok (.ireturn, 1) := by decide +kernel
theorem dL_law_4644 : decode cL_law 4644 = .ok (.goto 17, 3) := by decide +kernel
theorem dL_law_4647 : decode cL_law 4647 = .ok (.aload_n 1, 1) := by decide +kernel
theorem dL_law_4648 : decode cL_law 4648 = .ok (.invokevirtual 489, 3) := by decide +kernel
theorem dL_law_4651 : decode cL_law 4651 = .ok (.aload_n 2, 1) := by decide +kernel
theorem dL_law_4652 : decode cL_law 4652 = .ok (.invokevirtual 493, 3) := by decide +kernel
theorem dL_law_4655 : decode cL_law 4655 = .ok (.lcmp, 1) := by decide +kernel
theorem dL_law_4656 : decode cL_law 4656 = .ok (.ifCond .eq 5, 3) := by decide +kernel
theorem dL_law_4659 : decode cL_law 4659 = .ok (.iconst 0, 1) := by decide +kernel
theorem dL_law_4660 : decode cL_law 4660 = .ok (.ireturn, 1) := by decide +kernel
theorem dL_law_4661 : decode cL_law 4661 = .ok (.iinc 4 5, 3) := by decide +kernel
theorem dL_law_4664 : decode cL_law 4664 = .ok (.goto (-4641), 3) := by decide +kernel
theorem dL_law_4667 : decode cL_law 4667 = .ok (.iconst 1, 1) := by decide +kernel
theorem dL_law_4668 : decode cL_law 4668 = .ok (.ireturn, 1) := by decide +kernel
